/-! ===== PURE 48: best, slots and list ===== -/
theorem slot_fin {X Y W : Nat → Nat} {N l : Nat} : slotB X Y W N (N - 1) l = if hdF X Y W N l = true then nI (fT X Y W N (N - 1) l) else -1 := by
  unfold slotB hdF
  by_cases q : lo (snN X Y N (fT X Y W N (N - 1) l)) = l
  · rw [if_pos ⟨q, by omega⟩, decide_eq_true q, if_pos rfl]
  · rw [if_neg (fun g => q g.1), decide_eq_false q, if_neg Bool.false_ne_true]
theorem slot_q {X Y W : Nat → Nat} {N l : Nat} {g : Nat → Int32} (hN : N ≤ 24) (hl : l < N) (hg : ∀ l, l < N → g l = slotB X Y W N (N - 1) l) : (!decide (g l = -1)) = hdF X Y W N l := by
  rw [hg l hl, slot_fin]
  have ⟨a, _, _⟩ := fin_nd (X := X) (Y := Y) (W := W) hN hl
  have x : fT X Y W N (N - 1) l < 1000 := by rcases a with a | ⟨i, a, b⟩ <;> omega
  cases hdF X Y W N l with
  | true => rw [if_pos rfl, decide_eq_false (by rw [nI_m1 (by omega)]; exact id)]; rfl
  | false => rw [if_neg Bool.false_ne_true, decide_eq_true rfl]; rfl
theorem slot_cnt {X Y W : Nat → Nat} {N : Nat} {g : Nat → Int32} (hN : N ≤ 24) (hg : ∀ l, l < N → g l = slotB X Y W N (N - 1) l) : CN N g = nI (cntB (hdF X Y W N) N) := by
  unfold CN
  rw [cntB_congr (fun l hl => slot_q hN hl hg)]
/-- the m-th slot that holds a node is the m-th of the list -/
theorem slot_nth {X Y W : Nat → Nat} {N m : Nat} {g arr : Nat → Int32} (hN : N ≤ 24) (hg : ∀ l, l < N → g l = slotB X Y W N (N - 1) l) (hL : ∀ l, l < N → hdF X Y W N l = true → arr (cntB (hdF X Y W N) l) = nI (fT X Y W N (N - 1) l)) (hm : m < cntB (hdF X Y W N) N) :
    (match fstB (fun k => !decide (g k = -1) && decide (nI (cntB (fun l => !decide (g l = -1)) k) = nI m)) N with | some k => g k | none => -1) = arr m := by
  have hc := cntB_le (hdF X Y W N) N
  have e : fstB (fun k => !decide (g k = -1) && decide (nI (cntB (fun l => !decide (g l = -1)) k) = nI m)) N = fstB (fun k => hdF X Y W N k && decide (cntB (hdF X Y W N) k = m)) N := fstB_congr (fun k hk => by
    have c : cntB (fun l => !decide (g l = -1)) k = cntB (hdF X Y W N) k := cntB_congr (fun l hl => slot_q hN (by omega) hg)
    have b := cntB_le (hdF X Y W N) k
    rw [slot_q hN hk hg, c, decide_eq_decide.mpr (nI_eq (by omega) (by omega))])
  rw [e]
  obtain ⟨l, l1, l2, l3⟩ := cnt_sel hm
  cases f : fstB (fun k => hdF X Y W N k && decide (cntB (hdF X Y W N) k = m)) N with
  | none =>
    have := fstB_none.mp f l l1
    rw [l2, decide_eq_true l3] at this
    cases this
  | some k =>
    have ⟨k1, k2, _⟩ := fstB_some.mp f
    rw [Bool.and_eq_true] at k2
    have k3 := of_decide_eq_true k2.2
    show g k = arr m
    rw [hg k k1, slot_fin, if_pos k2.1, ← k3, hL k k1 k2.1]
