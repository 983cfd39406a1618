/-! ===== PURE 49: best, the reference's answer ===== -/
theorem reach_root {X Y W : Nat → Nat} {N : Nat} (hN : N ≤ 24) (h1 : 1 ≤ N) : REACH X Y W N (rootN N) := by
  unfold rootN
  intro l hl _
  by_cases q : N = 1
  · subst q
    rw [if_pos rfl]
    have l0 : l = 0 := by omega
    subst l0
    exact ⟨fun _ => rfl, fun j hj => by omega⟩
  · rw [if_neg q]
    refine ⟨fun h => by omega, fun j hj e => ?_⟩
    have ej : j = N - 2 := by omega
    rw [ej, show N - 1 - (N - 2 + 1) = 0 by omega]
    exact fT_0 hN (by omega) hl
theorem root_all {X Y : Nat → Nat} {N l : Nat} (hN : N ≤ 24) (hl : l < N) : (snN X Y N (rootN N)).testBit l = true := by
  unfold rootN
  by_cases q : N = 1
  · subst q
    rw [if_pos rfl, show snN X Y 1 0 = 2 ^ 0 from sn_P (by omega), show l = 0 by omega]
    decide
  · rw [if_neg q, show snN X Y N (100 + (N - 2)) = pmB (fP (KK X Y N)) (fQ (KK X Y N)) (N - 2) from sn_J]
    have ⟨hP, hQ⟩ := KK_lt (X := X) (Y := Y) hN (show N - 2 < N - 1 by omega)
    have hS := sm_part (P := fP (KK X Y N)) (Q := fQ (KK X Y N)) (N := N) (N - 2) (fun i hi => KK_lt hN (by omega))
    have t := tree_all (X := X) (Y := Y) hN hP hl
    have e : smB (fP (KK X Y N)) (fQ (KK X Y N)) (N - 2 + 1) (fP (KK X Y N) (N - 2)) = pmB (fP (KK X Y N)) (fQ (KK X Y N)) (N - 2) := pm_sub (N := N) (pm_a hS hP)
    rw [show N - 2 + 1 = N - 1 by omega] at e
    rw [e] at t
    exact t
theorem takeAll9 {F N : Nat} {X Y W : Nat → Nat} {aj ap first made one other second wide w : Nat → Int32} (hF : 5000 ≤ F) (hN : N ≤ 24) (h1 : 1 ≤ N) (hI : IN N X Y) (h : TR9 X Y N aj ap first made one other second wide) (hw : ∀ i, i < N → w i = nI (W i)) (arr : Nat → Int32) :
    (∃ r, mX9_takesBest F 30 (nI (rootN N)) (nI N) (0 : Int32) aj ap arr made one other w wide = some r ∧ LSTQ N (fT X Y W N (N - 1)) (hdF X Y W N) r) ∧ mX9_bestOf F 30 (nI (rootN N)) (nI N) aj ap made one other w wide = some (btV X Y W N (rootN N)) := by
  have hx : rootN N < N ∨ ∃ j, j < N - 1 ∧ j < 29 ∧ rootN N = 100 + j := by
    unfold rootN
    by_cases q : N = 1
    · rw [if_pos q]; exact Or.inl (by omega)
    · rw [if_neg q]; exact Or.inr ⟨N - 2, by omega, by omega, rfl⟩
  have z : cntB (fun _ => false) N = 0 := by
    rw [cntB_sum]
    exact (sumB_congr (g := fun _ => 0) (fun k _ => rfl)).trans (sumB_0 N)
  refine ⟨?_, bestOf9 hF hN hI h hw 29 _ hx⟩
  obtain ⟨r, e, g⟩ := takes9 hF hN hI h hw 29 _ hx (reach_root hN h1) (fun _ => false) arr (fun l _ e => by cases e) (fun l _ _ => rfl) ⟨rfl, fun l _ e => by cases e⟩
  rw [z] at e
  exact ⟨r, e, LSTQ_congr (fun l hl => by rw [root_all hN hl, Bool.and_true]; rfl) g⟩
