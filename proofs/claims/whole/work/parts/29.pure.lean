/-! ===== PURE 20: would ===== -/
theorem pair_cond {N M j k : Nat} {X Y W U V Z : Nat → Nat} (gN : GOOD N X Y W) (gM : GOOD M U V Z) (hj : j < N - 1) (hk : k < M - 1) :
    ((pn X Y (fP (KK X Y N) j) = pn U V (fP (KK U V M) k) ∧ pn X Y (fQ (KK X Y N) j) = pn U V (fQ (KK U V M) k)) ↔ pairB U V (KK U V M) k = pairB X Y (KK X Y N) j) ∧
    ¬ (pn X Y (fP (KK X Y N) j) = pn U V (fQ (KK U V M) k) ∧ pn X Y (fQ (KK X Y N) j) = pn U V (fP (KK U V M) k)) := by
  have ⟨a1, a2⟩ := KK_PQ (X := X) (Y := Y) gN.1 hj
  have ⟨b1, b2⟩ := KK_PQ (X := U) (Y := V) gM.1 hk
  have f1 := pl_lt gN.2.1 a2
  have f2 := pl_lt gM.2.1 b2
  have g1 := good_pl gN a1 a2
  have g2 := good_pl gM b1 b2
  have i1 := gN.2.1 (fP (KK X Y N) j) (by omega)
  have i2 := gN.2.1 (fQ (KK X Y N) j) a2
  have j1 := gM.2.1 (fP (KK U V M) k) (by omega)
  have j2 := gM.2.1 (fQ (KK U V M) k) b2
  rw [pn_pl i1 j1, pn_pl i1 j2, pn_pl i2 j1, pn_pl i2 j2]
  refine ⟨?_, by omega⟩
  rw [show (pairB U V (KK U V M) k = pairB X Y (KK X Y N) j) ↔ (pairB X Y (KK X Y N) j = pairB U V (KK U V M) k) from ⟨Eq.symm, Eq.symm⟩, pairB_eq f1 f2]
theorem aside9 {F N : Nat} {X Y W : Nat → Nat} {xs ys first second : Nat → Int32} (hF : 1000 ≤ F) (g : GOOD N X Y W) (hP : PT N X Y xs ys) (h : ∀ j, j < N - 1 → first j = nI (fP (KK X Y N) j) ∧ second j = nI (fQ (KK X Y N) j)) (one other : Nat → Int32) :
    ∃ t : (Nat → Int32) × (Nat → Int32), loop (fun s44 : Int32 × (Nat → Int32) × (Nat → Int32) => mX9_would_b44 F first second xs ys (nI (N - 1)) s44.1 s44.2.1 s44.2.2) F ((0 : Int32), one, other) = some t ∧
      ∀ j, j < N - 1 → t.1 j = nI (pn X Y (fP (KK X Y N) j)) ∧ t.2 j = nI (pn X Y (fQ (KK X Y N) j)) := by
  have hN := g.1
  refine lpI (body := fun s44 : Int32 × (Nat → Int32) × (Nat → Int32) => mX9_would_b44 F first second xs ys (nI (N - 1)) s44.1 s44.2.1 s44.2.2) (F := F)
    (fun k (t : (Nat → Int32) × (Nat → Int32)) => (nI k, t)) (fun k t => ∀ j, j < k → t.1 j = nI (pn X Y (fP (KK X Y N) j)) ∧ t.2 j = nI (pn X Y (fQ (KK X Y N) j))) 0 (N - 1) (fun t => t) (one, other) (by omega) (s0 := ((0 : Int32), one, other)) rfl
    (fun j hj => by omega) (fun k t _ hk hI2 => ?_) (fun t hI2 => ?_) (by omega)
  · have ⟨a1, a2⟩ := KK_lt (X := X) (Y := Y) hN hk
    have f := h k hk
    have p1 := place9 (F := F) hN hP a1
    have p2 := place9 (F := F) hN hP a2
    refine ⟨(upd t.1 k (nI (pn X Y (fP (KK X Y N) k))), upd t.2 k (nI (pn X Y (fQ (KK X Y N) k)))), ?_, fun j hj => ?_⟩
    · unfold mX9_would_b44
      simp (disch := omega) only [Option.bind_some, nI_leE, leF, if_false, rdI_n, wrI_n, f.1, f.2, p1, p2, nI_1]
    · exact ⟨upd_all (g := fun j => nI (pn X Y (fP (KK X Y N) j))) (fun j hj => (hI2 j hj).1) rfl j hj, upd_all (g := fun j => nI (pn X Y (fQ (KK X Y N) j))) (fun j hj => (hI2 j hj).2) rfl j hj⟩
  · unfold mX9_would_b44
    rw [if_pos (by rw [nI_leE (by omega) (by omega)]; omega)]
theorem would_in9 {F N M j : Nat} {X Y W U V Z : Nat → Nat} {one other : Nat → Int32} (hF : 1000 ≤ F) (gN : GOOD N X Y W) (gM : GOOD M U V Z) (hj : j < N - 1)
    (h2 : ∀ k, k < M - 1 → one k = nI (pn U V (fP (KK U V M) k)) ∧ other k = nI (pn U V (fQ (KK U V M) k))) :
    loop (fun s151 : Int32 × Int32 => mX9_would_b151 F (nI (M - 1)) one other (nI (pn X Y (fP (KK X Y N) j))) (nI (pn X Y (fQ (KK X Y N) j))) s151.1 s151.2) F ((0 : Int32), (0 : Int32)) = some (bI (hpB (pairB U V (KK U V M)) (pairB X Y (KK X Y N) j) (M - 1))) := by
  have hN := gN.1
  have hM := gM.1
  have ⟨a1, a2⟩ := KK_lt (X := X) (Y := Y) hN hj
  have d1 := pn_lt gN.2.1 a1
  have d2 := pn_lt gN.2.1 a2
  refine lp (fun k => (bI (hpB (pairB U V (KK U V M)) (pairB X Y (KK X Y N) j) k), nI k)) 0 (M - 1) _ (by omega) rfl (fun k _ hk => ?_) ?_ (by omega)
  · have hle : ¬ nI (M - 1) ≤ nI k := by rw [nI_leE (by omega) (by omega)]; omega
    simp only []
    rw [hpB_succ]
    unfold mX9_would_b151
    rw [if_neg hle]
    cases hp : hpB (pairB U V (KK U V M)) (pairB X Y (KK X Y N) j) k with
    | true =>
      rw [if_neg (by rw [k0T]; exact id), nI_1]
      rfl
    | false =>
      rw [if_pos (by rw [k0F]; trivial)]
      have ⟨b1, b2⟩ := KK_lt (X := U) (Y := V) hM hk
      have e1 := pn_lt gM.2.1 b1
      have e2 := pn_lt gM.2.1 b2
      have ⟨o1, o2⟩ := h2 k hk
      have ⟨c1', c2'⟩ := pair_cond gN gM hj hk
      have hj187 : mX9_would_j187 F one other (nI (pn X Y (fP (KK X Y N) j))) (nI (pn X Y (fQ (KK X Y N) j))) (nI k) = some (.inl ((0 : Int32), nI (k + 1))) := by
        unfold mX9_would_j187
        rw [rdI_n (by omega) (by omega), Option.bind_some, o2]
        by_cases r : pn X Y (fP (KK X Y N) j) = pn U V (fQ (KK U V M) k)
        · rw [if_pos (congrArg nI r), rdI_n (by omega) (by omega), Option.bind_some, o1, if_neg (fun s => c2' ⟨r, (nI_eq (by omega) (by omega)).mp s⟩), nI_1]
        · rw [if_neg (fun s => r ((nI_eq (by omega) (by omega)).mp s)), nI_1]
      rw [rdI_n (by omega) (by omega), Option.bind_some, o1]
      by_cases r : pn X Y (fP (KK X Y N) j) = pn U V (fP (KK U V M) k)
      · rw [if_pos (congrArg nI r), rdI_n (by omega) (by omega), Option.bind_some, o2]
        by_cases s : pn X Y (fQ (KK X Y N) j) = pn U V (fQ (KK U V M) k)
        · rw [if_pos (congrArg nI s), decide_eq_true (c1'.mp ⟨r, s⟩), nI_1]
          rfl
        · rw [if_neg (fun q => s ((nI_eq (by omega) (by omega)).mp q)), hj187, decide_eq_false (fun q => s (c1'.mpr q).2)]
          rfl
      · rw [if_neg (fun q => r ((nI_eq (by omega) (by omega)).mp q)), hj187, decide_eq_false (fun q => r (c1'.mpr q).1)]
        rfl
  · unfold mX9_would_b151
    rw [if_pos (by rw [nI_leE (by omega) (by omega)]; omega)]
theorem would_cnt9 {F N M : Nat} {X Y W U V Z : Nat → Nat} {xs ys one other first second : Nat → Int32} {n : Int32} (hF : 1000 ≤ F) (gN : GOOD N X Y W) (gM : GOOD M U V Z) (hn : n = nI N) (hP : PT N X Y xs ys) (h : ∀ j, j < N - 1 → first j = nI (fP (KK X Y N) j) ∧ second j = nI (fQ (KK X Y N) j))
    (h2 : ∀ k, k < M - 1 → one k = nI (pn U V (fP (KK U V M) k)) ∧ other k = nI (pn U V (fQ (KK U V M) k))) :
    loop (fun s110 : Int32 × Int32 => mX9_would_b110 F (nI (M - 1)) one other n xs ys first second s110.1 s110.2) F ((0 : Int32), (0 : Int32)) = some (nI (cntB (fun j => !hpB (pairB U V (KK U V M)) (pairB X Y (KK X Y N) j) (M - 1)) (N - 1))) := by
  subst hn
  have hN := gN.1
  have j9 := joins9 (F := F) hN
  refine lp (fun k => (nI (cntB (fun j => !hpB (pairB U V (KK U V M)) (pairB X Y (KK X Y N) j) (M - 1)) k), nI k)) 0 (N - 1) _ (by omega) rfl (fun k _ hk => ?_) ?_ (by omega)
  · have ⟨a1, a2⟩ := KK_lt (X := X) (Y := Y) hN hk
    have f := h k hk
    have p1 := place9 (F := F) hN hP a1
    have p2 := place9 (F := F) hN hP a2
    have w := would_in9 (F := F) hF gN gM hk h2
    have hle : ¬ nI (N - 1) ≤ nI k := by rw [nI_leE (by omega) (by omega)]; omega
    unfold mX9_would_b110
    rw [j9, Option.bind_some, if_neg hle, rdI_n (by omega) (by omega), Option.bind_some, f.1, p1, Option.bind_some, rdI_n (by omega) (by omega), Option.bind_some, f.2, p2, Option.bind_some, w, Option.bind_some]
    cases e : hpB (pairB U V (KK U V M)) (pairB X Y (KK X Y N) k) (M - 1) <;> simp [k0T, k0F, e, cntB, nI_1]
  · unfold mX9_would_b110
    rw [j9, Option.bind_some, if_pos (by rw [nI_leE (by omega) (by omega)]; omega)]
theorem del_ins (f : Nat → Nat) (i v : Nat) : delB (insB f i v) i = f := by
  funext j
  unfold delB
  by_cases h : j < i
  · rw [if_pos h]; unfold insB; rw [if_pos h]
  · rw [if_neg h]; unfold insB; rw [if_neg (by omega), if_neg (by omega)]; rfl
theorem sumA2r {F n : Nat} {A : Nat → Nat} {aparts : Nat → Int32} {c : Int32} (hF : 1000 ≤ F) (hn : n ≤ 24) (hc : c = nI n) (h : ∀ j, j < n → aparts j = nI (A j)) : mX2_sumAparts F c aparts = some (nI (sumB A n)) := by
  subst hc
  exact sumA2 hF hn h
theorem sumA9r {F N : Nat} {A : Nat → Nat} {aparts : Nat → Int32} {n : Int32} (hF : 1000 ≤ F) (hN : N ≤ 24) (hn : n = nI N) (h : ∀ j, j < N - 1 → aparts j = nI (A j)) : mX9_allApart F n aparts = some (nI (sumB A (N - 1))) := by
  subst hn
  exact sumA9 hF hN h
theorem find_ins {F N a b : Nat} {X Y W : Nat → Nat} {ws xs ys : Nat → Int32} {n : Int32} (hF : 1000 ≤ F) (g : GOOD (N + 1) (insB X (ipB X Y a b N) a) (insB Y (ipB X Y a b N) b) W) (ha : a < 1024) (hb : b < 1024) (hn : n = nI (N + 1))
    (h : ROWS (N + 1) (insB X (ipB X Y a b N) a) (insB Y (ipB X Y a b N) b) W ws xs ys) : mX9_pointAt F (nI a) (nI b) n xs ys = some (nI (ipB X Y a b N)) := by
  subst hn
  have s1 := (ip_spec (X := X) (Y := Y) (a := a) (b := b) (N := N)).1
  rw [find9 hF g.1]
  have hX : insB X (ipB X Y a b N) a (ipB X Y a b N) = a := by unfold insB; rw [if_neg (by omega), if_pos rfl]
  have hY : insB Y (ipB X Y a b N) b (ipB X Y a b N) = b := by unfold insB; rw [if_neg (by omega), if_pos rfl]
  generalize ipB X Y a b N = i0 at s1 g h hX hY ⊢
  have e : fstB (fun i => decide (xs i = nI a) && decide (ys i = nI b)) (N + 1) = some i0 := by
    refine fstB_some.mpr ⟨by omega, ?_, fun i hi => ?_⟩
    · have ⟨_, q2, q3⟩ := h i0 (by omega)
      rw [q2, q3, hX, hY]
      simp
    · have ⟨_, q2, q3⟩ := h i (by omega)
      have l := good_pl g hi (by omega)
      have b1 := g.2.1 i (by omega)
      unfold plB at l
      rw [hX, hY] at l
      rw [q2, q3]
      by_cases c : insB X i0 a i = a
      · have d : ¬ nI (insB Y i0 b i) = nI b := by rw [nI_eqE (by omega) (by omega)]; omega
        simp [d]
      · have d : ¬ nI (insB X i0 a i) = nI a := by rw [nI_eqE (by omega) (by omega)]; exact c
        simp [d]
  rw [e]
  rfl
theorem call_would {F : Nat} (hF : 5000 ≤ F) : Call_would F INV := by
  intro ca cl ci fr a1 a2 a3 h
  have h0 := h
  obtain ⟨N, M, S, X, Y, W, U, V, Z, ⟨g1, g2, g3, g4, g5, g6⟩, ⟨i8, i9, i15, i2, i3, i18, i19⟩, ⟨r1, r2, r3⟩, h4, h5, h6, h7⟩ := h
  have hN := g1.1
  have w9 := isInI9 F a3 0 1
  rw [l_0, l_1] at w9
  have c4 := canCome4 (F := F) (by omega) hN a1 a2 (ca 27) (ca 28)
  have c9 := canCome9 (F := F) (by omega) hN a1 a2 (ca 81) (ca 82)
  rw [← canB_congr (rows_eq r1 r2)] at c9
  by_cases c : canB N (ca 27) (ca 28) a1 a2 = true ∧ 0 ≤ a3.toInt ∧ a3.toInt ≤ 1
  · rw [decide_eq_true c.2] at w9
    rw [c.1] at c4 c9
    have q1 : ¬ a3 < 0 := by rw [tI_lt, i_0]; omega
    have q2 : ¬ (1 : Int32) < a3 := by rw [tI_lt, i_1]; omega
    obtain ⟨hN24, a, b, rfl, rfl, ha, hb, hne⟩ := canB_true g1.2.1 r1 c.1
    have gn := good_ins (w := 1) g1 hN24 ha hb ⟨by omega, by omega⟩ hne
    obtain ⟨t5, e5, s5, q5⟩ := copy4r (F := F) (ws := ca 50) (xs := ca 51) (ys := ca 52) (by omega) hN (ci 13) r1
    obtain ⟨t6, e6, s6, q6⟩ := put4r (F := F) (w := 1) (by omega) hN24 ha hb g1.2.1 s5 q5
    obtain ⟨t7, e7, s7, q7⟩ := rebuild2r (F := F) (by omega) gn.1 (rows_pt q6) gn.2.1 s6 (ci 12) (ca 43) (ca 44) (ca 45) (ca 46) (cl 6) (cl 7) (ca 47) (ca 48) (cl 8) (ca 49) (ca 53) (ca 54) (ca 55)
    have e6' : mX4_put F (nI a) (nI b) 1 t5.1 t5.2.1 t5.2.2.1 t5.2.2.2 = some t6 := e6
    have e8 := unlike2r (F := F) (by omega) (by have := gn.1; omega) (by omega) s7 i8 (tr2_pair gn.1 gn.2.1 q7) (tr2_pair hN g1.2.1 h4)
    have e9 := sumA2r (F := F) (by omega) (by have := gn.1; omega) s7 (fun j hj => (q7.1 j hj).1)
    have e10 := sumA2r (F := F) (by omega) (by omega) i8 (fun j hj => (h4.1 j hj).1)
    have j9 := joins9 (F := F) hN
    have f6 := sumA9r (F := F) (by omega) hN i15 (fun j hj => (h6.1 j hj).2.2.2.2.2)
    obtain ⟨u7, f7, v7⟩ := aside9 (F := F) (by omega) g1 (rows_pt r2) (fun j hj => ⟨(h6.1 j hj).1, (h6.1 j hj).2.1⟩) (ca 59) (ca 60)
    obtain ⟨u15, f15, v15, k15⟩ := put9r (F := F) (w := 1) (by omega) hN24 ha hb g1.2.1 i15 r2
    have f15' : mX9_comes F (nI a) (nI b) 1 (ci 15) (ca 73) (ca 81) (ca 82) = some u15 := f15
    obtain ⟨u16, f16, k16⟩ := laysTree9r (F := F) (by omega) gn.1 (rows_pt k15) gn.2.1 v15 (ca 56) (ca 57) (ca 63) (ca 64) (ca 65) (ca 66) (ca 67) (ca 70) (ca 71) (ca 80)
    have f17 := would_cnt9 (F := F) (by omega) gn g1 v15 (rows_pt k15) (fun j hj => ⟨(k16.1 j hj).1, (k16.1 j hj).2.1⟩) v7
    have f37 := sumA9r (F := F) (by omega) gn.1 v15 (fun j hj => (k16.1 j hj).2.2.2.2.2)
    have f39 := find_ins (F := F) (by omega) gn ha hb v15 k15
    have s1 := (ip_spec (X := X) (Y := Y) (a := a) (b := b) (N := N)).1
    obtain ⟨u40, f40, v40, k40⟩ := drop9r (F := F) (by omega) gn.1 (show ipB X Y a b N < N + 1 by omega) v15 k15
    rw [del_ins, del_ins, del_ins, Nat.add_sub_cancel] at k40
    rw [Nat.add_sub_cancel] at v40
    obtain ⟨u41, f41, k41⟩ := laysTree9r (F := F) (by omega) hN (rows_pt k40) g1.2.1 v40 u16.1 u16.2.1 u16.2.2.1 u16.2.2.2.1 u16.2.2.2.2.1 u16.2.2.2.2.2.1 u16.2.2.2.2.2.2.1 u16.2.2.2.2.2.2.2.1 u16.2.2.2.2.2.2.2.2.1 u16.2.2.2.2.2.2.2.2.2
    by_cases q0 : a3 = 0
    · refine ⟨?r8_0, ?r9_0, ?e8_0, ?e9_0, ?rest_0⟩
      case e8_0 =>
        unfold mX8_would
        rw [if_neg q1, if_neg q2, i9, c4, Option.bind_some, if_neg (by rw [k0T]; exact id), e5, Option.bind_some]
        rw [e6', Option.bind_some, e7, Option.bind_some, if_pos q0, e8, Option.bind_some]
      case e9_0 =>
        unfold mX9_would
        rw [f6, f15', i15, c9, Option.bind_some, if_neg (by rw [k0T]; exact id), w9, Option.bind_some, if_neg (by rw [k0T]; exact id), j9, Option.bind_some, Option.bind_some, f7, Option.bind_some]
        rw [Option.bind_some, f16, Option.bind_some, f17, Option.bind_some, f37, Option.bind_some, Option.bind_some, f39, Option.bind_some, f40, Option.bind_some, f41, Option.bind_some, if_pos q0]
      case rest_0 =>
        refine ⟨rfl, ?_⟩
        exact ⟨N, M, S, X, Y, W, U, V, Z, ⟨g1, g2, g3, g4, g5, g6⟩, ⟨i8, i9, v40, i2, i3, i18, i19⟩, ⟨r1, k40, r3⟩, h4, h5, k41, h7⟩
    · refine ⟨?r8_1, ?r9_1, ?e8_1, ?e9_1, ?rest_1⟩
      case e8_1 =>
        unfold mX8_would
        rw [if_neg q1, if_neg q2, i9, c4, Option.bind_some, if_neg (by rw [k0T]; exact id), e5, Option.bind_some]
        rw [e6', Option.bind_some, e7, Option.bind_some, if_neg q0, e9, Option.bind_some, e10, Option.bind_some]
      case e9_1 =>
        unfold mX9_would
        rw [f6, f15', i15, c9, Option.bind_some, if_neg (by rw [k0T]; exact id), w9, Option.bind_some, if_neg (by rw [k0T]; exact id), j9, Option.bind_some, Option.bind_some, f7, Option.bind_some]
        rw [Option.bind_some, f16, Option.bind_some, f17, Option.bind_some, f37, Option.bind_some, Option.bind_some, f39, Option.bind_some, f40, Option.bind_some, f41, Option.bind_some, if_neg q0]
      case rest_1 =>
        refine ⟨rfl, ?_⟩
        exact ⟨N, M, S, X, Y, W, U, V, Z, ⟨g1, g2, g3, g4, g5, g6⟩, ⟨i8, i9, v40, i2, i3, i18, i19⟩, ⟨r1, k40, r3⟩, h4, h5, k41, h7⟩
  · refine ⟨?r8_2, ?r9_2, ?e8_2, ?e9_2, ?rest_2⟩
    case r8_2 => exact ((-10000000 : Int32), ci 12, ci 13, ca 43, ca 44, ca 45, ca 46, cl 6, cl 7, ca 47, ca 48, cl 8, ca 49, ca 50, ca 51, ca 52, ca 53, ca 54, ca 55)
    case r9_2 => exact ((-10000000 : Int32), ci 15, (0 : Int32), ca 56, ca 57, ca 59, ca 60, ca 63, ca 64, ca 65, ca 66, ca 67, ca 70, ca 71, ca 73, ca 80, ca 81, ca 82)
    case e8_2 =>
      unfold mX8_would
      by_cases q1 : a3 < 0
      · rw [if_pos q1]
      · rw [if_neg q1]
        by_cases q2 : (1 : Int32) < a3
        · rw [if_pos q2]
        · rw [tI_lt, i_0] at q1
          rw [if_neg q2]
          rw [tI_lt, i_1] at q2
          have c1 : canB N (ca 27) (ca 28) a1 a2 = false := Bool.not_eq_true _ |>.mp (fun q => c ⟨q, by omega, by omega⟩)
          rw [i9, c4, c1, Option.bind_some, if_pos (by rw [k0F]; trivial)]
    case e9_2 =>
      unfold mX9_would
      rw [show mX9_canCome F a1 a2 (ci 15) (ca 81) (ca 82) = some (bI (canB N (ca 27) (ca 28) a1 a2)) by rw [i15]; exact c9, Option.bind_some]
      by_cases c1 : canB N (ca 27) (ca 28) a1 a2 = true
      · rw [c1, if_neg (by rw [k0T]; exact id), w9, decide_eq_false (fun q => c ⟨c1, q⟩), Option.bind_some, if_pos (by rw [k0F]; trivial)]
      · rw [Bool.not_eq_true _ |>.mp c1, if_pos (by rw [k0F]; trivial)]
    case rest_2 => exact ⟨rfl, h0⟩
