/-! ===== PURE 23: how long parts last; calls join, look ===== -/
theorem ja_lt {P Q : Nat → Nat} {i k : Nat} : ∀ {T}, jaB P Q T i = some k → k < T
  | 0, h => by cases h
  | T + 1, h => by
    simp only [jaB] at h
    split at h
    · cases h; omega
    · split at h
      · cases h
      · have := ja_lt h; omega
theorem pa_lt {P Q : Nat → Nat} {i k : Nat} : ∀ {T}, paB P Q T i = some k → k < T
  | 0, h => by cases h
  | T + 1, h => by
    simp only [paB] at h
    split at h
    · cases h; omega
    · have := pa_lt h; omega
def lsV (X Y W : Nat → Nat) (N m r : Nat) : Option Nat → Int32
  | none => 0
  | some k => nI (wtB W m N) * (nI (rt (AA X Y N k)) - nI r)
def lsJ (X Y W : Nat → Nat) (N j : Nat) : Int32 := lsV X Y W N (pmB (fP (KK X Y N)) (fQ (KK X Y N)) j) (rt (AA X Y N j)) (jaB (fP (KK X Y N)) (fQ (KK X Y N)) (N - 1) j)
def lsP (X Y W : Nat → Nat) (N p : Nat) : Int32 := lsV X Y W N (2 ^ p) 0 (paB (fP (KK X Y N)) (fQ (KK X Y N)) (N - 1) p)
theorem till2 {F N m r k : Nat} {x : Int32} {X Y W : Nat → Nat} {parts ws roots : Nat → Int32} (hF : 1000 ≤ F) (hN : N ≤ 24) (hm : m < 2 ^ 31) (hs : mX2_setOf F x parts = some (nI m)) (hw : ∀ i, i < N → ws i = nI (W i)) (hr : ∀ j, j < N - 1 → roots j = nI (rt (AA X Y N j))) (hk : k < N - 1) :
    mX2_lastsOf_j40 F x (nI N) parts ws roots (nI k) (nI r) = some (lsV X Y W N m r (some k)) := by
  unfold mX2_lastsOf_j40
  rw [hs, Option.bind_some, weight4 hF hN hm hw, Option.bind_some, rdI_n (by omega) (by omega), Option.bind_some, hr k hk]
  rfl
theorem jo2P (F : Nat) {p : Nat} (hp : p < 100) : mX2_joinOf F (nI p) = some (-1) := by
  unfold mX2_joinOf
  rw [if_pos (show nI p < (100 : Int32) by rw [c100, nI_ltE (by omega) (by omega)]; omega)]
theorem jo2J (F : Nat) {j : Nat} (hj : j < 24) : mX2_joinOf F (nI (100 + j)) = some (nI j) := by
  have e : nI (100 + j) - 100 = nI j := by rw [c100, pk_sub (by omega)]; congr 1; omega
  unfold mX2_joinOf
  rw [if_neg (show ¬ nI (100 + j) < (100 : Int32) by rw [c100, nI_ltE (by omega) (by omega)]; omega), if_neg (show ¬ (124 : Int32) ≤ nI (100 + j) by rw [c124, nI_leE (by omega) (by omega)]; omega), e]
theorem lastsJ2 {F N j : Nat} {X Y W : Nat → Nat} {aparts fs firsts ja os parts pa roots seconds ws : Nat → Int32} {pairs : Nat → Int64} (hF : 1000 ≤ F) (hN : N ≤ 24) (h : TR2 X Y N aparts fs firsts ja os parts pa roots seconds pairs) (hw : ∀ i, i < N → ws i = nI (W i)) (hj : j < N - 1) :
    mX2_lastsOf F (nI (100 + j)) (nI (N - 1)) (nI N) ja parts ws pa roots = some (lsJ X Y W N j) := by
  have a := h.1 j hj
  have jo := jo2J F (j := j) (by omega)
  have jn : ¬ nI j = (-1 : Int32) := by rw [nI_m1 (by omega)]; exact id
  have hs : mX2_setOf F (nI (100 + j)) parts = some (nI (pmB (fP (KK X Y N)) (fQ (KK X Y N)) j)) := by
    unfold mX2_setOf
    rw [jo, Option.bind_some, if_neg jn, rdI_n (by omega) (by omega), Option.bind_some, a.2.2.2.2.1]
  have hA : mX2_joinAbove F (nI (100 + j)) ja pa = some (oI (jaB (fP (KK X Y N)) (fQ (KK X Y N)) (N - 1) j)) := by
    unfold mX2_joinAbove
    rw [jo, Option.bind_some, if_neg jn, rdI_n (by omega) (by omega), Option.bind_some, h.2.1 j hj]
  have hl : ∀ k, jaB (fP (KK X Y N)) (fQ (KK X Y N)) (N - 1) j = some k → k < N - 1 := fun k hk => ja_lt hk
  unfold mX2_lastsOf lsJ
  rw [jo, Option.bind_some, hA, Option.bind_some]
  cases o : jaB (fP (KK X Y N)) (fQ (KK X Y N)) (N - 1) j with
  | none => rw [show oI none = -1 from rfl, if_pos (show (-1 : Int32) < 0 by rw [m1_lt0]; trivial)]; rfl
  | some k =>
    have hk := hl k o
    rw [show oI (some k) = nI k from rfl, if_neg (show ¬ nI k < 0 by rw [nI_lt0 (by omega)]; exact id), if_pos (show nI k < nI (N - 1) by rw [nI_ltE (by omega) (by omega)]; omega), if_neg jn, rdI_n (by omega) (by omega), Option.bind_some, a.2.2.2.2.2.1]
    exact till2 hF hN (lt31 (tr_pm hN hj) hN) hs hw (fun i hi => (h.1 i hi).2.2.2.2.2.1) hk
theorem lastsP2 {F N p : Nat} {X Y W : Nat → Nat} {aparts fs firsts ja os parts pa roots seconds ws : Nat → Int32} {pairs : Nat → Int64} (hF : 1000 ≤ F) (hN : N ≤ 24) (h : TR2 X Y N aparts fs firsts ja os parts pa roots seconds pairs) (hw : ∀ i, i < N → ws i = nI (W i)) (hp : p < N) :
    mX2_lastsOf F (nI p) (nI (N - 1)) (nI N) ja parts ws pa roots = some (lsP X Y W N p) := by
  have jo := jo2P F (p := p) (by omega)
  have hs : mX2_setOf F (nI p) parts = some (nI (2 ^ p)) := by
    unfold mX2_setOf
    rw [jo, Option.bind_some, if_pos rfl, nI_bit (by omega)]
  have hA : mX2_joinAbove F (nI p) ja pa = some (oI (paB (fP (KK X Y N)) (fQ (KK X Y N)) (N - 1) p)) := by
    unfold mX2_joinAbove
    rw [jo, Option.bind_some, if_pos rfl, if_neg (show ¬ nI p < 0 by rw [nI_lt0 (by omega)]; exact id), if_neg (show ¬ (24 : Int32) ≤ nI p by rw [c24, nI_leE (by omega) (by omega)]; omega), rdI_n (by omega) (by omega), Option.bind_some, h.2.2 p hp]
  have hl : ∀ k, paB (fP (KK X Y N)) (fQ (KK X Y N)) (N - 1) p = some k → k < N - 1 := fun k hk => pa_lt hk
  unfold mX2_lastsOf lsP
  rw [jo, Option.bind_some, hA, Option.bind_some]
  cases o : paB (fP (KK X Y N)) (fQ (KK X Y N)) (N - 1) p with
  | none => rw [show oI none = -1 from rfl, if_pos (show (-1 : Int32) < 0 by rw [m1_lt0]; trivial)]; rfl
  | some k =>
    have hk := hl k o
    rw [show oI (some k) = nI k from rfl, if_neg (show ¬ nI k < 0 by rw [nI_lt0 (by omega)]; exact id), if_pos (show nI k < nI (N - 1) by rw [nI_ltE (by omega) (by omega)]; omega), if_pos rfl, show (0 : Int32) = nI 0 from rfl]
    exact till2 hF hN (Nat.pow_lt_pow_right (by omega) (by omega)) hs hw (fun i hi => (h.1 i hi).2.2.2.2.2.1) hk
theorem j46_9 {F N m : Nat} {X Y W : Nat → Nat} {w wide : Nat → Int32} {o : Option Nat} (hF : 5000 ≤ F) (hN : N ≤ 24) (hm : m < 2 ^ 31) (hw : ∀ i, i < N → w i = nI (W i)) (hA : ∀ j, j < N - 1 → wide j = nI (AA X Y N j) ∧ AA X Y N j < 4194304) (ho : ∀ k, o = some k → k < N - 1) :
    (∀ j, j < N - 1 → mX9_lasts_j46 F (nI (100 + j)) (nI N) w wide (nI m) (oI o) = some (lsV X Y W N m (rt (AA X Y N j)) o)) ∧ (∀ p, p < N → mX9_lasts_j46 F (nI p) (nI N) w wide (nI m) (oI o) = some (lsV X Y W N m 0 o)) := by
  refine ⟨fun j hj => ?_, fun p hp => ?_⟩
  · unfold mX9_lasts_j46
    cases o with
    | none => rw [if_pos (show oI none = -1 from rfl)]; rfl
    | some k =>
      have hk := ho k rfl
      have e : nI (100 + j) - 100 = nI j := by rw [c100, pk_sub (by omega)]; congr 1; omega
      rw [show oI (some k) = nI k from rfl, if_neg (by rw [nI_m1 (by omega)]; exact id), weight9 (by omega) hN hm hw, Option.bind_some, rdI_n (by omega) (by omega), Option.bind_some, (hA k hk).1, root9 hF (hA k hk).2, Option.bind_some,
        if_pos (show (100 : Int32) ≤ nI (100 + j) by rw [c100, nI_leE (by omega) (by omega)]; omega), e, rdI_n (by omega) (by omega), Option.bind_some, (hA j hj).1, root9 hF (hA j hj).2, Option.bind_some]
      rfl
  · unfold mX9_lasts_j46
    cases o with
    | none => rw [if_pos (show oI none = -1 from rfl)]; rfl
    | some k =>
      have hk := ho k rfl
      rw [show oI (some k) = nI k from rfl, if_neg (by rw [nI_m1 (by omega)]; exact id), weight9 (by omega) hN hm hw, Option.bind_some, rdI_n (by omega) (by omega), Option.bind_some, (hA k hk).1, root9 hF (hA k hk).2, Option.bind_some,
        if_neg (show ¬ (100 : Int32) ≤ nI p by rw [c100, nI_leE (by omega) (by omega)]; omega)]
      rfl
theorem lastsJ9 {F N j : Nat} {X Y W : Nat → Nat} {aj ap first made one other second wide w : Nat → Int32} (hF : 5000 ≤ F) (hN : N ≤ 24) (hI : IN N X Y) (h : TR9 X Y N aj ap first made one other second wide) (hw : ∀ i, i < N → w i = nI (W i)) (hj : j < N - 1) :
    mX9_lasts F (nI (100 + j)) (nI N) aj ap made w wide = some (lsJ X Y W N j) := by
  have a := h.1 j hj
  have e : nI (100 + j) - 100 = nI j := by rw [c100, pk_sub (by omega)]; congr 1; omega
  have ge : (100 : Int32) ≤ nI (100 + j) := by rw [c100, nI_leE (by omega) (by omega)]; omega
  unfold mX9_lasts
  rw [if_pos ge, e, rdI_n (by omega) (by omega), Option.bind_some]
  unfold mX9_lasts_j21
  rw [if_pos ge, e, rdI_n (by omega) (by omega), Option.bind_some, a.2.2.1, h.2.1 j hj]
  exact (j46_9 (X := X) (Y := Y) hF hN (lt31 (tr_pm hN hj) hN) hw (tr9_A hN hI h) (fun k hk => ja_lt hk)).1 j hj
theorem lastsP9 {F N p : Nat} {X Y W : Nat → Nat} {aj ap first made one other second wide w : Nat → Int32} (hF : 5000 ≤ F) (hN : N ≤ 24) (hI : IN N X Y) (h : TR9 X Y N aj ap first made one other second wide) (hw : ∀ i, i < N → w i = nI (W i)) (hp : p < N) :
    mX9_lasts F (nI p) (nI N) aj ap made w wide = some (lsP X Y W N p) := by
  have ge : ¬ (100 : Int32) ≤ nI p := by rw [c100, nI_leE (by omega) (by omega)]; omega
  unfold mX9_lasts
  rw [if_neg ge, nI_bit (by omega)]
  unfold mX9_lasts_j21
  rw [if_neg ge, rdI_n (by omega) (by omega), Option.bind_some, h.2.2 p hp]
  exact (j46_9 (X := X) (Y := Y) hF hN (Nat.pow_lt_pow_right (by omega) (by omega)) hw (tr9_A hN hI h) (fun k hk => pa_lt hk)).2 p hp
theorem isJoin9 (F : Nat) {N : Nat} (hN : N ≤ 24) (a : Int32) : mX9_isJoin F a (nI N) = some (bI (decide (0 ≤ a.toInt ∧ a.toInt < (N - 1 : Nat)))) := by
  unfold mX9_isJoin
  rw [joins9 hN, Option.bind_some, isInI9, l_0, nl_1 (by omega), Option.bind_some]
  congr 2
  apply decide_eq_decide.mpr
  omega
theorem call_join {F : Nat} (hF : 5000 ≤ F) : Call_join F INV := by
  intro ca cl ci fr a1 a2 h
  have h0 := h
  obtain ⟨N, M, S, X, Y, W, U, V, Z, ⟨g1, g2, g3, g4, g5, g6⟩, ⟨i8, i9, i15, i2, i3, i18, i19⟩, ⟨r1, r2, r3⟩, h4, h5, h6, h7⟩ := h
  have hN := g1.1
  have hM := g2.1
  have p9 := isJoin9 F hN a1
  by_cases c : 0 ≤ a1.toInt ∧ a1.toInt < (N - 1 : Nat)
  · obtain ⟨j, hj, rfl⟩ : ∃ p, p < N - 1 ∧ a1 = nI p := (pt_or a1 (N := N - 1) (by omega)).resolve_right (by omega)
    rw [decide_eq_true c] at p9
    have A := h4.1 j hj
    have B := h6.1 j hj
    have hpm := tr_pm (X := X) (Y := Y) hN hj
    have hpm24 : pmB (fP (KK X Y N)) (fQ (KK X Y N)) j < 2 ^ 24 := Nat.lt_of_lt_of_le hpm (Nat.pow_le_pow_right (by omega) hN)
    have x1 : ¬ nI j < 0 := by rw [nI_lt0 (by omega)]; exact id
    have x2 : nI j < nI (N - 1) := by rw [nI_ltE (by omega) (by omega)]; exact hj
    have e100 : (100 : Int32) + nI j = nI (100 + j) := by rw [c100, nI_add]
    have key : ∀ v : Int32, mX8_join F (nI j) a2 (ci 2) (ci 8) (ci 9) (cl 2) (ca 19) (ca 20) (ca 21) (ca 22) (ca 24) (cl 5) (ca 25) (ca 26) (ca 29) (ca 30) (ca 31) = some v →
        mX9_join F (nI j) a2 (ci 14) (ci 15) (ci 18) (ci 19) (ca 56) (ca 57) (ca 63) (ca 64) (ca 66) (ca 67) (ca 70) (ca 73) (ca 74) (ca 75) (ca 80) (ca 81) (ca 82) = some (v, 0) →
        ∃ r8 : Int32, ∃ r9 : Int32 × Int32, mX8_join F (nI j) a2 (ci 2) (ci 8) (ci 9) (cl 2) (ca 19) (ca 20) (ca 21) (ca 22) (ca 24) (cl 5) (ca 25) (ca 26) (ca 29) (ca 30) (ca 31) = some r8 ∧
          mX9_join F (nI j) a2 (ci 14) (ci 15) (ci 18) (ci 19) (ca 56) (ca 57) (ca 63) (ca 64) (ca 66) (ca 67) (ca 70) (ca 73) (ca 74) (ca 75) (ca 80) (ca 81) (ca 82) = some r9 ∧ r8 = r9.1 ∧ INV ca cl (fun j => cond (Nat.beq j 14) ((r9.2)) (ci j)) :=
      fun v e8 e9 => ⟨_, _, e8, e9, rfl, h0⟩
    by_cases q0 : a2 = 0
    · subst q0
      refine key (nI (AA X Y N j)) ?_ ?_
      · simp (disch := omega) only [mX8_join, i8, i9, x1, x2, if_false, if_true, rdI_n, Option.bind_some, A.1]; rfl
      · simp (disch := omega) only [mX9_join, i15, p9, Option.bind_some, k0T, if_false, if_true, rdI_n, B.2.2.2.2.2]; rfl
    · by_cases q1 : a2 = 1
      · subst q1
        refine key (nI (fP (KK X Y N) j)) ?_ ?_
        · simp (disch := omega) only [mX8_join, i8, i9, x1, x2, q0, if_false, if_true, rdI_n, Option.bind_some, A.2.2.1]
        · simp (disch := omega) only [mX9_join, i15, p9, Option.bind_some, k0T, q0, if_false, if_true, rdI_n, B.1]
      · by_cases q2 : a2 = 2
        · subst q2
          refine key (nI (fQ (KK X Y N) j)) ?_ ?_
          · simp (disch := omega) only [mX8_join, i8, i9, x1, x2, q0, q1, if_false, if_true, rdI_n, Option.bind_some, A.2.2.2.2.2.2.1]
          · simp (disch := omega) only [mX9_join, i15, p9, Option.bind_some, k0T, q0, q1, if_false, if_true, rdI_n, B.2.1]
        · by_cases q3 : a2 = 3
          · subst q3
            refine key (nI (cntB (pmB (fP (KK X Y N)) (fQ (KK X Y N)) j).testBit 24)) ?_ ?_
            · simp (disch := omega) only [mX8_join, i8, i9, x1, x2, q0, q1, q2, if_false, if_true, rdI_n, Option.bind_some, A.2.2.2.2.1]
              rw [bitCnt_n hpm24]
            · simp (disch := omega) only [mX9_join, i15, p9, Option.bind_some, k0T, q0, q1, q2, if_false, if_true, rdI_n, B.2.2.1]
              rw [bits9 (by omega) (by omega), Option.bind_some]
          · by_cases q4 : a2 = 4
            · subst q4
              refine key (nI (wtB W (pmB (fP (KK X Y N)) (fQ (KK X Y N)) j) N)) ?_ ?_
              · simp (disch := omega) only [mX8_join, i8, i9, x1, x2, q0, q1, q2, q3, if_false, if_true, rdI_n, Option.bind_some, A.2.2.2.2.1]
                rw [weight4 (by omega) hN (by omega) (rows_w r1), Option.bind_some]
              · simp (disch := omega) only [mX9_join, i15, p9, Option.bind_some, k0T, q0, q1, q2, q3, if_false, if_true, rdI_n, B.2.2.1]
                rw [weight9 (by omega) hN (by omega) (rows_w r2), Option.bind_some]
            · by_cases q5 : a2 = 5
              · subst q5
                refine key (nI (ndB (fP (KK X Y N)) (fQ (KK X Y N)) j (fP (KK X Y N) j))) ?_ ?_
                · simp (disch := omega) only [mX8_join, i8, i9, x1, x2, q0, q1, q2, q3, q4, if_false, if_true, rdI_n, Option.bind_some, A.2.1]
                · simp (disch := omega) only [mX9_join, i15, p9, Option.bind_some, k0T, q0, q1, q2, q3, q4, if_false, if_true, rdI_n, B.2.2.2.1]
              · by_cases q6 : a2 = 6
                · subst q6
                  refine key (nI (ndB (fP (KK X Y N)) (fQ (KK X Y N)) j (fQ (KK X Y N) j))) ?_ ?_
                  · simp (disch := omega) only [mX8_join, i8, i9, x1, x2, q0, q1, q2, q3, q4, q5, if_false, if_true, rdI_n, Option.bind_some, A.2.2.2.1]
                  · simp (disch := omega) only [mX9_join, i15, p9, Option.bind_some, k0T, q0, q1, q2, q3, q4, q5, if_false, if_true, rdI_n, B.2.2.2.2.1]
                · by_cases q7 : a2 = 7
                  · subst q7
                    refine key (oI (jaB (fP (KK X Y N)) (fQ (KK X Y N)) (N - 1) j)) ?_ ?_
                    · simp (disch := omega) only [mX8_join, i8, i9, x1, x2, q0, q1, q2, q3, q4, q5, q6, if_false, if_true, rdI_n, Option.bind_some, h4.2.1 j hj]
                    · simp (disch := omega) only [mX9_join, i15, p9, Option.bind_some, k0T, q0, q1, q2, q3, q4, q5, q6, if_false, if_true, rdI_n, h6.2.1 j hj]
                  · by_cases q8 : a2 = 8
                    · subst q8
                      refine key (lsJ X Y W N j) ?_ ?_
                      · simp (disch := omega) only [mX8_join, i8, i9, x1, x2, q0, q1, q2, q3, q4, q5, q6, q7, if_false, if_true, e100]
                        rw [lastsJ2 (by omega) hN h4 (rows_w r1) hj, Option.bind_some]
                      · simp (disch := omega) only [mX9_join, i15, p9, Option.bind_some, k0T, q0, q1, q2, q3, q4, q5, q6, q7, if_false, if_true, e100]
                        rw [lastsJ9 hF hN g1.2.1 h6 (rows_w r2) hj, Option.bind_some]
                    · by_cases q9 : a2 = 9
                      · subst q9
                        have pN := tr2_pair hN g1.2.1 h4 j hj
                        have hp := hasPair2 (F := F) (by omega) (by omega) pN.2 (tr2_pair hM g2.2.1 h5)
                        have hr1 : ci 19 = 1 := i19.resolve_left (by omega)
                        have n9 := isNew9 (F := F) (by omega) g1 g2 (tr_both (rows_pt r2) h6 h7) hj
                        refine key (bI (!hpB (pairB U V (KK U V M)) (pairB X Y (KK X Y N) j) (M - 1))) ?_ ?_
                        · simp (disch := omega) only [mX8_join, i8, i9, i2, x1, x2, q0, q1, q2, q3, q4, q5, q6, q7, q8, if_false, if_true, rdL_n, Option.bind_some, pN.1]
                          rw [hp, Option.bind_some]
                          cases hpB (pairB U V (KK U V M)) (pairB X Y (KK X Y N) j) (M - 1)
                          · rw [if_pos (by rw [k0F]; trivial)]; rfl
                          · rw [if_neg (by rw [k0T]; exact id)]; rfl
                        · simp (disch := omega) only [mX9_join, i15, i18, hr1, p9, Option.bind_some, k0T, q0, q1, q2, q3, q4, q5, q6, q7, q8, if_false, if_true]
                          rw [n9, Option.bind_some]
                          cases hpB (pairB U V (KK U V M)) (pairB X Y (KK X Y N) j) (M - 1)
                          · rw [if_neg (show ¬ (bI (!false) = 0) by rw [show (!false) = true from rfl, k0T]; exact id)]; rfl
                          · rw [if_pos (show bI (!true) = 0 by rw [show (!true) = false from rfl, k0F]; trivial)]; rfl
                      · refine key (-1) ?_ ?_
                        · simp (disch := omega) only [mX8_join, i8, i9, x1, x2, q0, q1, q2, q3, q4, q5, q6, q7, q8, q9, if_false, if_true]
                        · simp (disch := omega) only [mX9_join, i15, p9, Option.bind_some, k0T, q0, q1, q2, q3, q4, q5, q6, q7, q8, q9, if_false]
  · rw [decide_eq_false c] at p9
    have e8 : mX8_join F a1 a2 (ci 2) (ci 8) (ci 9) (cl 2) (ca 19) (ca 20) (ca 21) (ca 22) (ca 24) (cl 5) (ca 25) (ca 26) (ca 29) (ca 30) (ca 31) = some (-1) := by
      unfold mX8_join
      rw [i8]
      by_cases q : a1 < 0
      · rw [if_pos q]
      · rw [if_neg q, if_neg]
        rw [tI_lt, i_0] at q
        rw [tI_lt, tI_n (by omega)]
        omega
    have e9 : mX9_join F a1 a2 (ci 14) (ci 15) (ci 18) (ci 19) (ca 56) (ca 57) (ca 63) (ca 64) (ca 66) (ca 67) (ca 70) (ca 73) (ca 74) (ca 75) (ca 80) (ca 81) (ca 82) = some (-1, 0) := by
      unfold mX9_join
      rw [i15, p9, Option.bind_some, if_pos (by rw [k0F]; trivial)]
    exact ⟨_, _, e8, e9, rfl, h0⟩
theorem allN {N : Nat} (hN : N ≤ 24) : ((1 : Int32) <<< (nI N &&& 31)) - 1 = nI (2 ^ N - 1) := by
  have : 1 ≤ 2 ^ N := Nat.one_le_two_pow
  rw [nI_bit (by omega), nI_s1 this]
def gaB (X Y : Nat → Nat) (N k : Nat) : Nat := sumB (fun z => N - jwB (AA X Y N) (N - 1) z) k
theorem all8 {F N : Nat} {X Y : Nat → Nat} {aparts : Nat → Int32} (hF : 1000 ≤ F) (hN : N ≤ 24) (h : ∀ j, j < N - 1 → aparts j = nI (AA X Y N j) ∧ AA X Y N j < 4194304) : mX8_groupsOfAllZooms F (nI (N - 1)) (nI N) aparts = some (nI (gaB X Y N 11)) := by
  unfold mX8_groupsOfAllZooms
  refine lp (fun k => (nI (gaB X Y N k), nI k)) 0 11 _ (by omega) rfl (fun k _ hk => ?_) ?_ (by omega)
  · have g := groups8 (F := F) (z := k) hF hN (by omega) h
    unfold mX8_groupsOfAllZooms_b4
    simp only []
    rw [if_neg (by rw [c10, nI_ltE (by omega) (by omega)]; omega), g, Option.bind_some, Option.bind_some, nI_add, nI_1]
    rfl
  · unfold mX8_groupsOfAllZooms_b4
    simp only []
    rw [if_pos (by rw [c10, nI_ltE (by omega) (by omega)]; omega)]
theorem all9 {F N : Nat} {X Y : Nat → Nat} (hF : 1000 ≤ F) (hN : N ≤ 24) (hI : IN N X Y) {aj ap first made one other second wide : Nat → Int32} (h : TR9 X Y N aj ap first made one other second wide) (part : Nat → Int32) :
    ∃ t, mX9_groupsOfAll F (nI N) made part wide = some (nI (gaB X Y N 11), t) := by
  unfold mX9_groupsOfAll
  refine Exists.elim (lpI (body := fun s4 : Int32 × Int32 × (Nat → Int32) => mX9_groupsOfAll_b4 F (nI N) made wide s4.1 s4.2.1 s4.2.2) (F := F) (fun k (t : Nat → Int32) => (nI (gaB X Y N k), nI k, t)) (fun _ _ => True) 0 11 (fun t => (nI (gaB X Y N 11), t)) part (by omega) (s0 := ((0 : Int32), (0 : Int32), part)) rfl
    trivial (fun k t _ hk _ => ?_) (fun t _ => ?_) (by omega)) (fun t ht => ⟨t, ht.1⟩)
  · obtain ⟨y, e, g⟩ := laysZoom9 (F := F) (z := k) hF hN hI (by omega) h t
    have p9 := partsNow9 (F := F) hF hN (szB_part hN) g
    refine ⟨y, ?_, trivial⟩
    unfold mX9_groupsOfAll_b4
    simp only []
    rw [if_neg (by rw [c10, nI_ltE (by omega) (by omega)]; omega), e, Option.bind_some, p9, Option.bind_some, Option.bind_some, nI_add, nI_1, szB_cnt hN]
    rfl
  · unfold mX9_groupsOfAll_b4
    simp only []
    rw [if_pos (by rw [c10, nI_ltE (by omega) (by omega)]; omega)]
theorem call_look {F : Nat} (hF : 5000 ≤ F) : Call_look F INV := by
  intro ca cl ci fr a1 h
  have h0 := h
  obtain ⟨N, M, S, X, Y, W, U, V, Z, ⟨g1, g2, g3, g4, g5, g6⟩, ⟨i8, i9, i15, i2, i3, i18, i19⟩, ⟨r1, r2, r3⟩, h4, h5, h6, h7⟩ := h
  have hN := g1.1
  have hall : 2 ^ N - 1 < 2 ^ 31 := by
    have : 2 ^ N ≤ 2 ^ 24 := Nat.pow_le_pow_right (by omega) hN
    omega
  have fi : mX6_first F (nI N) = some (nI (2 ^ N - 1)) := by unfold mX6_first; rw [allN hN]
  have key : ∀ (v : Int32) (t : Nat → Int32), mX8_look F a1 (ci 0) (ci 1) (ci 8) (ci 9) (ca 19) (ca 21) (ca 26) (ca 27) (ca 28) (ca 30) (ca 31) = some v → mX9_look F a1 (ci 14) (ci 15) (ci 16) (ci 17) (ca 63) (ca 64) (ca 68) (ca 70) (ca 73) (ca 80) (ca 81) (ca 82) = some (v, 0, t) →
      ∃ r8 : Int32, ∃ r9 : Int32 × Int32 × (Nat → Int32), mX8_look F a1 (ci 0) (ci 1) (ci 8) (ci 9) (ca 19) (ca 21) (ca 26) (ca 27) (ca 28) (ca 30) (ca 31) = some r8 ∧ mX9_look F a1 (ci 14) (ci 15) (ci 16) (ci 17) (ca 63) (ca 64) (ca 68) (ca 70) (ca 73) (ca 80) (ca 81) (ca 82) = some r9 ∧ r8 = r9.1 ∧ INV (fun j => cond (Nat.beq j 68) ((r9.2.2)) (ca j)) cl (fun j => cond (Nat.beq j 14) ((r9.2.1)) (ci j)) :=
    fun v t e8 e9 => ⟨_, _, e8, e9, rfl, h0⟩
  by_cases q0 : a1 = 0
  · subst q0
    refine key (nI N) (ca 68) ?_ ?_
    · simp only [mX8_look, i9, fi, Option.bind_some, if_true]
    · simp only [mX9_look, i15, if_true]
  · by_cases q1 : a1 = 1
    · subst q1
      refine key (nI (wtB W (2 ^ N - 1) N)) (ca 68) ?_ ?_
      · simp only [mX8_look, i9, fi, Option.bind_some, q0, if_false, if_true]
        rw [weight4 (by omega) hN hall (rows_w r1), Option.bind_some]
      · simp only [mX9_look, i15, q0, if_false, if_true]
        rw [allN hN, weight9 (by omega) hN hall (rows_w r2), Option.bind_some]
    · by_cases q2 : a1 = 2
      · subst q2
        refine key (ci 0) (ca 68) ?_ ?_
        · simp only [mX8_look, i9, fi, Option.bind_some, q0, q1, if_false, if_true]
        · simp only [mX9_look, q0, q1, if_false, if_true, g4, g5]
      · by_cases q3 : a1 = 3
        · subst q3
          refine key (ci 1) (ca 68) ?_ ?_
          · simp only [mX8_look, i9, fi, Option.bind_some, q0, q1, q2, if_false, if_true]
          · simp only [mX9_look, q0, q1, q2, if_false, if_true, g6]
        · by_cases q4 : a1 = 4
          · subst q4
            refine key (nI (sumB (AA X Y N) (N - 1))) (ca 68) ?_ ?_
            · simp only [mX8_look, i8, i9, fi, Option.bind_some, q0, q1, q2, q3, if_false, if_true]
              rw [sumA2 (A := AA X Y N) (by omega) (by omega) (fun j hj => (tr2_A hN g1.2.1 h4 j hj).1), Option.bind_some]
            · simp only [mX9_look, i15, q0, q1, q2, q3, if_false, if_true]
              rw [sumA9 (A := AA X Y N) (by omega) hN (fun j hj => (tr9_A hN g1.2.1 h6 j hj).1), Option.bind_some]
          · by_cases q5 : a1 = 5
            · subst q5
              refine key (nI (sumB (fun j => rt (AA X Y N j)) (N - 1))) (ca 68) ?_ ?_
              · simp only [mX8_look, i8, i9, fi, Option.bind_some, q0, q1, q2, q3, q4, if_false, if_true]
                rw [sumR2 (A := fun j => rt (AA X Y N j)) (by omega) (by omega) (fun j hj => (h4.1 j hj).2.2.2.2.2.1), Option.bind_some]
              · simp only [mX9_look, i15, q0, q1, q2, q3, q4, if_false, if_true]
                rw [sumR9 hF hN (tr9_A hN g1.2.1 h6), Option.bind_some]
            · by_cases q6 : a1 = 6
              · subst q6
                refine key (nI (wdB X Y (2 ^ N - 1) N)) (ca 68) ?_ ?_
                · simp only [mX8_look, i8, i9, fi, Option.bind_some, q0, q1, q2, q3, q4, q5, if_false, if_true]
                  rw [wide4 (by omega) hN (rows_pt r1) g1.2.1 hall, Option.bind_some]
                · simp only [mX9_look, i15, q0, q1, q2, q3, q4, q5, if_false, if_true]
                  rw [allN hN, wide9 (by omega) hN (rows_pt r2) g1.2.1 hall, Option.bind_some]
              · by_cases q7 : a1 = 7
                · subst q7
                  refine key (nI (mlB (fP (KK X Y N)) (fQ (KK X Y N)) (N - 1) N)) (ca 68) ?_ ?_
                  · simp only [mX8_look, i8, i9, fi, Option.bind_some, q0, q1, q2, q3, q4, q5, q6, if_false, if_true]
                    rw [most2 (by omega) hN (by omega) (tr2_pq hN h4), Option.bind_some]
                  · simp only [mX9_look, i15, q0, q1, q2, q3, q4, q5, q6, if_false, if_true]
                    rw [most9 (by omega) hN (tr9_pq hN h6), Option.bind_some]
                · by_cases q8 : a1 = 8
                  · subst q8
                    obtain ⟨t, e9⟩ := all9 (F := F) (by omega) hN g1.2.1 h6 (ca 68)
                    refine key (nI (gaB X Y N 11)) t ?_ ?_
                    · simp only [mX8_look, i8, i9, fi, Option.bind_some, q0, q1, q2, q3, q4, q5, q6, q7, if_false, if_true]
                      rw [all8 (by omega) hN (tr2_A hN g1.2.1 h4), Option.bind_some]
                    · simp only [mX9_look, i15, q0, q1, q2, q3, q4, q5, q6, q7, if_false, if_true]
                      rw [e9, Option.bind_some]
                  · refine key (-10) (ca 68) ?_ ?_
                    · simp only [mX8_look, i8, i9, fi, Option.bind_some, q0, q1, q2, q3, q4, q5, q6, q7, q8, if_false]
                    · simp only [mX9_look, i15, q0, q1, q2, q3, q4, q5, q6, q7, q8, if_false]
