/-! ===== PURE 46: best, the reference takes nodes ===== -/
def hdF (X Y W : Nat → Nat) (N l : Nat) : Bool := decide (lo (snN X Y N (fT X Y W N (N - 1) l)) = l)
theorem LSTQ_congr {N : Nat} {f : Nat → Nat} {q q' : Nat → Bool} {r : Int32 × (Nat → Int32)} (h : ∀ l, l < N → q l = q' l) (g : LSTQ N f q r) : LSTQ N f q' r := by
  refine ⟨by rw [g.1, cntB_congr h], fun l hl e => ?_⟩
  rw [← cntB_congr (p := q) (q := q') (n := l) (fun k hk => h k (by omega))]
  exact g.2 l hl (by rw [h l hl]; exact e)
theorem fin_nd {X Y W : Nat → Nat} {N l : Nat} (hN : N ≤ 24) (hl : l < N) : NDL N (N - 1) (fT X Y W N (N - 1) l) ∧ snN X Y N (fT X Y W N (N - 1) l) < 2 ^ 24 ∧ snN X Y N (fT X Y W N (N - 1) l) ≠ 0 := by
  have hK : ∀ i, i < N - 1 → fP (KK X Y N) i < N ∧ fQ (KK X Y N) i < N := fun i hi => KK_lt hN hi
  have hS : PART N (fun l => snN X Y N (fT X Y W N (N - 1) l)) := fr_part (sp := spB X Y W N) hN hK (t := N - 1) (Nat.le_refl _)
  refine ⟨?_, part_24 hN hS hl⟩
  rcases (fr_all (sp := spB X Y W N) hN hK (N - 1) (Nat.le_refl _) l hl).1 with o | ⟨i, _, i2, i3, _⟩
  · refine Or.inl ?_
    have : fT X Y W N (N - 1) l = ndB (fP (KK X Y N)) (fQ (KK X Y N)) (N - 1 - (N - 1)) l := o
    rw [this, Nat.sub_self]
    exact hl
  · exact Or.inr ⟨i, i2, i3⟩
/-- a node that does not split is put into the list -/
theorem take_fin {F N x p0 : Nat} {X Y W : Nat → Nat} {q : Nat → Bool} {aj ap first made one other second wide arr : Nat → Int32} (hF : 1000 ≤ F) (hN : N ≤ 24) (h : TR9 X Y N aj ap first made one other second wide)
    (hp0 : p0 < N) (h0 : (snN X Y N x).testBit p0 = true) (hx : ∀ l, l < N → (snN X Y N x).testBit l = true → fT X Y W N (N - 1) l = x) (hq : ∀ l, l < N → q l = true → hdF X Y W N l = true) (hd : ∀ l, l < N → (snN X Y N x).testBit l = true → q l = false) (hL : LSTQ N (fT X Y W N (N - 1)) q (nI (cntB q N), arr)) :
    ∃ r, mX9_takesBest_j68 F (nI x) made (nI (cntB q N)) arr = some r ∧ LSTQ N (fT X Y W N (N - 1)) (fun l => q l || (hdF X Y W N l && (snN X Y N x).testBit l)) r := by
  have hK : ∀ i, i < N - 1 → fP (KK X Y N) i < N ∧ fQ (KK X Y N) i < N := fun i hi => KK_lt hN hi
  have hS : PART N (fun l => snN X Y N (fT X Y W N (N - 1) l)) := fr_part (sp := spB X Y W N) hN hK (t := N - 1) (Nat.le_refl _)
  have l1 := lo_part hN hS hp0
  have fp0 := hx p0 hp0 h0
  have es : snN X Y N (fT X Y W N (N - 1) p0) = snN X Y N x := by rw [fp0]
  have l1a : lo (snN X Y N x) < N := by rw [← es]; exact l1.1
  have l1b : (snN X Y N x).testBit (lo (snN X Y N x)) = true := by rw [← es]; exact l1.2.1
  have fp := hx _ l1a l1b
  have i := ins9 (F := F) (p := lo (snN X Y N x)) (f := fT X Y W N (N - 1)) (q := q) hF hN h (fun l hl g => by
    have ⟨a, b, c⟩ := fin_nd (X := X) (Y := Y) (W := W) hN hl
    refine ⟨a, b, c, ?_⟩
    rcases g with g | g
    · exact of_decide_eq_true (hq l hl g)
    · rw [g, fp]) l1a (hd _ l1a l1b) hL
  rw [fp] at i
  obtain ⟨r, e, g⟩ := i
  refine ⟨r, e, LSTQ_congr (fun l hl => ?_) g⟩
  by_cases c : l = lo (snN X Y N x)
  · have e1 : hdF X Y W N l = true := by unfold hdF; rw [c, fp]; exact decide_eq_true rfl
    have e2 : (snN X Y N x).testBit l = true := by rw [c]; exact l1b
    rw [decide_eq_true c, e1, e2]
    rfl
  · rw [decide_eq_false c]
    have z : (hdF X Y W N l && (snN X Y N x).testBit l) = false := by
      cases m : (snN X Y N x).testBit l with
      | false => rw [Bool.and_false]
      | true =>
        have e1 : hdF X Y W N l = false := by unfold hdF; rw [hx l hl m]; exact decide_eq_false (fun e => c e.symm)
        rw [e1]
        rfl
    rw [z]
