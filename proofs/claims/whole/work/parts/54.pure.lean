/-! ===== PURE 45: best, who is reached ===== -/
theorem fT_stay {X Y W : Nat → Nat} {N t l c : Nat} (h : fT X Y W N t l = c) : ∀ u, t + u ≤ N - 1 → (∀ k, N - 1 - (t + u) ≤ k → k < N - 1 - t → c ≠ 100 + k) → fT X Y W N (t + u) l = c
  | 0, _, _ => h
  | u + 1, hu, hc => by
    have ih := fT_stay h u (by omega) (fun k h1 h2 => hc k (by omega) h2)
    obtain ⟨k, hk⟩ : ∃ k, N - 1 - (t + u) = k + 1 := ⟨N - 1 - (t + u) - 1, by omega⟩
    rw [show t + (u + 1) = t + u + 1 from rfl, sel_step hk, ih, if_neg (fun q => hc k (by omega) (by omega) q.1)]
/-- all points of a node stand in it when its turn comes, or at the end -/
def REACH (X Y W : Nat → Nat) (N x : Nat) : Prop := ∀ l, l < N → (snN X Y N x).testBit l = true → (x < 100 → fT X Y W N (N - 1) l = x) ∧ ∀ j, j < N - 1 → x = 100 + j → fT X Y W N (N - 1 - (j + 1)) l = x
theorem reach_nd {X Y W : Nat → Nat} {N j p : Nat} (hN : N ≤ 24) (hj : j < N - 1) (hs : spB X Y W N j = true) (hr : REACH X Y W N (100 + j)) (hp : p < N) (hm : ∀ l, l < N → (smB (fP (KK X Y N)) (fQ (KK X Y N)) j p).testBit l = true → (pmB (fP (KK X Y N)) (fQ (KK X Y N)) j).testBit l = true) : REACH X Y W N (ndB (fP (KK X Y N)) (fQ (KK X Y N)) j p) := by
  have hKk : ∀ i, i < j → fP (KK X Y N) i < N ∧ fQ (KK X Y N) i < N := fun i hi => KK_lt hN (by omega)
  intro l hl g
  have e : snN X Y N (ndB (fP (KK X Y N)) (fQ (KK X Y N)) j p) = smB (fP (KK X Y N)) (fQ (KK X Y N)) j p := sn_nd (by omega)
  rw [e] at g
  have f := (hr l hl (by rw [show snN X Y N (100 + j) = pmB (fP (KK X Y N)) (fQ (KK X Y N)) j from sn_J]; exact hm l hl g)).2 j hj rfl
  have st := sel_step (X := X) (Y := Y) (W := W) (N := N) (t := N - 1 - (j + 1)) (k := j) (by omega) l
  rw [if_pos ⟨f, hs⟩, ← nd_same j hKk p l hp hl g] at st
  have nl := nd_ndl (P := fP (KK X Y N)) (Q := fQ (KK X Y N)) (N := N) (j := j) hp
  refine ⟨fun x100 => ?_, fun i hi ei => ?_⟩
  · have s := fT_stay st j (by omega) (fun k _ _ => by omega)
    rw [show N - 1 - (j + 1) + 1 + j = N - 1 by omega] at s
    exact s
  · have ij : i < j := by rcases nl with a | ⟨i2, a, b⟩ <;> omega
    have s := fT_stay st (j - (i + 1)) (by omega) (fun k h1 h2 => by omega)
    rw [show N - 1 - (j + 1) + 1 + (j - (i + 1)) = N - 1 - (i + 1) by omega] at s
    exact s
