/-! ===== PURE 50: best, both sides ===== -/
theorem y0_best {N : Nat} (h1 : 1 ≤ N) (hN : N ≤ 24) (q : N ≠ 1) : ((100 : Int32) + nI N) - 2 = nI (rootN N) := by
  unfold rootN
  rw [if_neg q, c100, nI_add, show (2 : Int32) = nI 2 from rfl, pk_sub (by omega)]
  congr 1
  omega
theorem best9_pre {F N : Nat} {X Y W : Nat → Nat} {aj ap first made one other second wide w : Nat → Int32} (hF : 5000 ≤ F) (hN : N ≤ 24) (h1 : 1 ≤ N) (hI : IN N X Y) (h : TR9 X Y N aj ap first made one other second wide) (hw : ∀ i, i < N → w i = nI (W i)) (a1 told many : Int32) (arr : Nat → Int32) :
    ∃ r : Int32 × (Nat → Int32), LSTQ N (fT X Y W N (N - 1)) (hdF X Y W N) r ∧ mX9_best F a1 told (nI N) many aj ap arr made one other w wide = mX9_best_j44 F a1 (nI N) aj ap made one other w wide (nI (rootN N)) r.1 0 r.2 := by
  obtain ⟨⟨r, e, g⟩, _⟩ := takeAll9 hF hN h1 hI h hw arr
  refine ⟨r, g, ?_⟩
  have j31 : mX9_best_j31 F a1 (nI N) aj ap made one other w wide (nI (rootN N)) 0 0 arr = mX9_best_j44 F a1 (nI N) aj ap made one other w wide (nI (rootN N)) r.1 0 r.2 := by
    unfold mX9_best_j31
    rw [if_neg (show ¬ nI N ≤ 0 by rw [nI_le0 (by omega)]; omega), e, Option.bind_some]
  unfold mX9_best
  by_cases q : N = 1
  · have e0 : (0 : Int32) = nI (rootN N) := by unfold rootN; rw [if_pos q]; rfl
    rw [if_pos (show nI N = (1 : Int32) by rw [q]; rfl), ← j31, ← e0]
  · rw [if_neg (show ¬ nI N = (1 : Int32) from fun g => q ((nI_eq (a := N) (b := 1) (by omega) (by omega)).mp g)), y0_best h1 hN q, j31]
