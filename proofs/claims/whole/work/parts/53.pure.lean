/-! ===== PURE 44: best, the reference's list ===== -/
theorem cnt_sel {q : Nat → Bool} {i : Nat} : ∀ {N}, i < cntB q N → ∃ l, l < N ∧ q l = true ∧ cntB q l = i
  | 0, h => absurd h (Nat.not_lt_zero i)
  | N + 1, h => by
    have c : cntB q (N + 1) = cntB q N + (if q N = true then 1 else 0) := rfl
    rw [c] at h
    by_cases g : i < cntB q N
    · obtain ⟨l, a, b, c⟩ := cnt_sel g
      exact ⟨l, by omega, b, c⟩
    · by_cases e : q N = true
      · rw [if_pos e] at h
        exact ⟨N, by omega, e, by omega⟩
      · rw [if_neg e] at h
        omega
theorem cnt_mon {q : Nat → Bool} {a : Nat} : ∀ {b}, a ≤ b → cntB q a ≤ cntB q b
  | 0, h => by rw [show a = 0 by omega]; exact Nat.le_refl _
  | b + 1, h => by
    rcases Nat.eq_or_lt_of_le h with e | e
    · rw [e]; exact Nat.le_refl _
    · have := cnt_mon (q := q) (a := a) (b := b) (by omega)
      have c : cntB q (b + 1) = cntB q b + (if q b = true then 1 else 0) := rfl
      omega
theorem cnt_lt1 {q : Nat → Bool} {a b : Nat} (h : a < b) (hq : q a = true) : cntB q a < cntB q b := by
  have := cnt_mon (q := q) (a := a + 1) (b := b) h
  have c : cntB q (a + 1) = cntB q a + (if q a = true then 1 else 0) := rfl
  rw [if_pos hq] at c
  omega
theorem setOf9 {F N x : Nat} {X Y : Nat → Nat} {aj ap first made one other second wide : Nat → Int32} (hN : N ≤ 24) (h : TR9 X Y N aj ap first made one other second wide) (hx : NDL N (N - 1) x) : mX9_setOfNode F (nI x) made = some (nI (snN X Y N x)) := by
  unfold mX9_setOfNode snN
  rcases hx with hx | ⟨j, hj, rfl⟩
  · rw [if_neg (hun_nle (by omega)), sn_P (by omega), nI_bit (by omega)]
  · rw [if_pos (hun_le (by omega)), hun_sub, rdI_n (by omega) (by omega), Option.bind_some, sn_J, (h.1 j hj).2.2.1]
/-- a list of nodes in order of their least points -/
def LSTQ (N : Nat) (f : Nat → Nat) (q : Nat → Bool) (r : Int32 × (Nat → Int32)) : Prop := r.1 = nI (cntB q N) ∧ ∀ l, l < N → q l = true → r.2 (cntB q l) = nI (f l)
theorem ins9 {F N p : Nat} {X Y : Nat → Nat} {f : Nat → Nat} {q : Nat → Bool} {aj ap first made one other second wide arr : Nat → Int32} (hF : 1000 ≤ F) (hN : N ≤ 24) (h : TR9 X Y N aj ap first made one other second wide)
    (hf : ∀ l, l < N → (q l = true ∨ l = p) → NDL N (N - 1) (f l) ∧ snN X Y N (f l) < 2 ^ 24 ∧ snN X Y N (f l) ≠ 0 ∧ lo (snN X Y N (f l)) = l) (hp : p < N) (hq : q p = false) (hL : LSTQ N f q (nI (cntB q N), arr)) :
    ∃ r, mX9_takesBest_j68 F (nI (f p)) made (nI (cntB q N)) arr = some r ∧ LSTQ N f (fun l => q l || decide (l = p)) r := by
  have cq : ∀ n, cntB (fun l => q l || decide (l = p)) n = cntB q n + (if p < n then 1 else 0) := cnt_drop (by simp) hq (fun k hk => by simp [hk])
  have cN := cq N
  rw [if_pos hp] at cN
  have cle := cntB_le (fun l => q l || decide (l = p)) N
  have hr : cntB q p ≤ cntB q N := cnt_mon (by omega)
  have ⟨p1, p2, p3, p4⟩ := hf p hp (Or.inr rfl)
  have sx := setOf9 (F := F) hN h p1
  have lx := least9s (F := F) hF p2 p3
  rw [p4] at lx
  have rd : ∀ i, i < cntB q N → ∃ l, l < N ∧ cntB q l = i ∧ q l = true ∧ arr i = nI (f l) ∧ mX9_setOfNode F (nI (f l)) made = some (nI (snN X Y N (f l))) ∧ mX9_least F (nI (snN X Y N (f l))) = some (nI l) := fun i hi => by
    obtain ⟨l, a, b, c⟩ := cnt_sel hi
    have ⟨l1, l2, l3, l4⟩ := hf l a (Or.inl b)
    have lx := least9s (F := F) hF l2 l3
    rw [l4] at lx
    have v := hL.2 l a b
    rw [c] at v
    exact ⟨l, a, c, b, v, setOf9 hN h l1, lx⟩
  unfold mX9_takesBest_j68
  refine Exists.elim (lpI (body := fun s73 : Int32 × (Nat → Int32) => mX9_takesBest_b73 F (nI (f p)) made (nI (cntB q N)) s73.1 s73.2) (F := F) (fun t (a : Nat → Int32) => (nI (cntB q N - t), a)) (fun t a => (∀ i, i < cntB q N - t → a i = arr i) ∧ ∀ i, cntB q N - t < i → i ≤ cntB q N → a i = arr (i - 1)) 0 (cntB q N - cntB q p) (fun a => (nI (cntB q N + 1), upd a (cntB q p) (nI (f p)))) arr (by omega) (s0 := (nI (cntB q N), arr)) rfl
    ⟨fun i _ => rfl, fun i h1 h2 => by omega⟩ (fun t a _ ht hI2 => ?_) (fun a hI2 => ?_) (by omega)) (fun a ha => ⟨_, ha.1, ?_⟩)
  · obtain ⟨j, hj⟩ : ∃ j, cntB q N - t = j + 1 := ⟨cntB q N - t - 1, by omega⟩
    have j2 : cntB q N - (t + 1) = j := by omega
    rw [hj] at hI2 ⊢
    rw [j2]
    obtain ⟨l, l1, l2, l3, l4, l5, l6⟩ := rd j (by omega)
    have aj := hI2.1 j (by omega)
    have lp : p < l := by
      refine Nat.lt_of_not_le (fun g => ?_)
      rcases Nat.eq_or_lt_of_le g with e | e
      · rw [e, hq] at l3; cases l3
      · have := cnt_lt1 e l3
        omega
    refine ⟨upd a (j + 1) (arr j), ?_, fun i hi => ?_, fun i h1 h2 => ?_⟩
    · unfold mX9_takesBest_b73
      simp only []
      rw [if_neg (show ¬ nI (j + 1) ≤ 0 by rw [nI_le0 (by omega)]; omega), nI_s1 (by omega), show j + 1 - 1 = j from rfl, rdI_n (by omega) (by omega), Option.bind_some, aj, l4, l5, Option.bind_some, l6, Option.bind_some, sx, Option.bind_some, lx, Option.bind_some, if_neg (show ¬ nI l ≤ nI p by rw [nI_leE (by omega) (by omega)]; omega), Option.bind_some, wrI_n (by omega) (by omega), Option.bind_some, Option.bind_some]
    · exact (if_neg (show ¬ i = j + 1 by omega)).trans (hI2.1 i (by omega))
    · by_cases e : i = j + 1
      · subst e; exact if_pos rfl
      · exact (if_neg e).trans (hI2.2 i (by omega) h2)
  · have e : cntB q N - (cntB q N - cntB q p) = cntB q p := by omega
    rw [e] at hI2 ⊢
    unfold mX9_takesBest_b73
    simp only []
    by_cases z : cntB q p = 0
    · rw [if_pos (show nI (cntB q p) ≤ 0 by rw [nI_le0 (by omega)]; exact z), wrI_n (by omega) (by omega), Option.bind_some, nI_1, Option.bind_some]
    · obtain ⟨l, l1, l2, l3, l4, l5, l6⟩ := rd (cntB q p - 1) (by omega)
      have lp : l ≤ p := by
        refine Nat.le_of_not_lt (fun g => ?_)
        have := cnt_mon (q := q) (a := p) (b := l) (by omega)
        omega
      rw [if_neg (show ¬ nI (cntB q p) ≤ 0 by rw [nI_le0 (by omega)]; exact z), nI_s1 (by omega), rdI_n (by omega) (by omega), Option.bind_some, hI2.1 (cntB q p - 1) (by omega), l4, l5, Option.bind_some, l6, Option.bind_some, sx, Option.bind_some, lx, Option.bind_some, if_pos (show nI l ≤ nI p by rw [nI_leE (by omega) (by omega)]; omega), wrI_n (by omega) (by omega), Option.bind_some, nI_1, Option.bind_some]
  · have ⟨_, a1, a2⟩ := ha
    have e : cntB q N - (cntB q N - cntB q p) = cntB q p := by omega
    rw [e] at a1 a2
    refine ⟨by rw [cN], fun l hl g => ?_⟩
    show upd a (cntB q p) (nI (f p)) (cntB (fun l => q l || decide (l = p)) l) = nI (f l)
    rw [cq l]
    by_cases e : l = p
    · rw [e, if_neg (by omega)]
      exact if_pos rfl
    · have ql : q l = true := by
        rw [Bool.or_eq_true] at g
        rcases g with g | g
        · exact g
        · exact absurd (of_decide_eq_true g) e
      have v := hL.2 l hl ql
      have c2 := cnt_lt1 hl ql
      by_cases lt : p < l
      · rw [if_pos lt]
        have := cnt_mon (q := q) (a := p) (b := l) (by omega)
        exact (if_neg (show ¬ cntB q l + 1 = cntB q p by omega)).trans ((a2 (cntB q l + 1) (by omega) (by omega)).trans v)
      · rw [if_neg lt]
        have := cnt_lt1 (q := q) (a := l) (b := p) (by omega) ql
        exact (if_neg (show ¬ cntB q l + 0 = cntB q p by omega)).trans ((a1 (cntB q l) (by omega)).trans v)
