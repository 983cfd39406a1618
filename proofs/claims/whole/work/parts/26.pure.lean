/-! ===== PURE 17: calls: near, point, meets, repaired ===== -/
theorem nearRow8 {F N : Nat} {xs ys : Nat → Int32} (hF : 1000 ≤ F) (hN : N ≤ 24) (x y : Int32) (row : Nat → Int32) :
    ∃ row', loop (fun s28 : Int32 × (Nat → Int32) => mX8_near_b28 F x y (nI N) xs ys s28.1 s28.2) F ((0 : Int32), row) = some row' ∧ ∀ i, i < N → row' i = sqE xs ys x y i := by
  refine lpI (body := fun s28 : Int32 × (Nat → Int32) => mX8_near_b28 F x y (nI N) xs ys s28.1 s28.2) (F := F) (fun k (t : Nat → Int32) => (nI k, t)) (fun k t => ∀ i, i < k → t i = sqE xs ys x y i) 0 N (fun t => t) row (by omega) (s0 := ((0 : Int32), row)) rfl
    (fun i hi => by omega) (fun k t _ hk hI2 => ?_) (fun t hI2 => ?_) (by omega)
  · have s := squares4 (F := F) (xs := xs) (ys := ys) hN hk x y
    exact ⟨upd t k (sqE xs ys x y k), by simp (disch := omega) [mX8_near_b28, Option.bind_some, nI_leE, nI_ltE, nI_eqE, nI_1, nI_add, rdI_n, rdL_n, wrI_n, wrL_n, has6b, has9b, bI_0, bI_1, nI_m1, nI_lt0, nI_le0, nI_0le, nI_eq0, leF, leT, ltF, ltT, eqF, s], upd_all hI2 rfl⟩
  · simp (disch := omega) [mX8_near_b28, Option.bind_some, nI_leE, nI_ltE, nI_eqE, nI_1, nI_add, rdI_n, rdL_n, wrI_n, wrL_n, has6b, has9b, bI_0, bI_1, nI_m1, nI_lt0, nI_le0, nI_0le, nI_eq0, leF, leT, ltF, ltT, eqF]
theorem call_near {F : Nat} (hF : 5000 ≤ F) : Call_near F INV := by
  intro ca cl ci fr a1 a2 a3 h
  have h0 := h
  obtain ⟨N, M, S, X, Y, W, U, V, Z, ⟨g1, g2, g3, g4, g5, g6⟩, ⟨i8, i9, i15, i2, i3, i18, i19⟩, ⟨r1, r2, r3⟩, h4, h5, h6, h7⟩ := h
  have hN := g1.1
  by_cases c1 : -9999 ≤ a1.toInt ∧ a1.toInt ≤ 9999
  · by_cases c2 : -9999 ≤ a2.toInt ∧ a2.toInt ≤ 9999
    · obtain ⟨row', e1, q1⟩ := nearRow8 (F := F) (xs := ca 27) (ys := ca 28) (by omega) hN a1 a2 (ca 37)
      have e8 : mX8_near F a1 a2 a3 (ci 9) (ca 27) (ca 28) (ca 37) = some (oI (fstB (fun i => decide (nI (rkB (sqE (ca 27) (ca 28) a1 a2) i N) = a3)) N), row') := by
        unfold mX8_near
        rw [i9, isNear8, isNear8, decide_eq_true c1, decide_eq_true c2, e1]
        simp only [Option.bind_some, bI_0]
        rw [if_neg (by decide), if_neg (by decide)]
        refine (lpS nI (fun i => decide (nI (rkB (sqE (ca 27) (ca 28) a1 a2) i N) = a3)) N (fun k => (nI k, row')) (-1, row') rfl (fun k hk _ => ?_) (fun _ => ?_) (by omega)).trans ?_
        · have s := rank8 (F := F) (by omega) hN hk q1
          by_cases g : nI (rkB (sqE (ca 27) (ca 28) a1 a2) k N) = a3 <;> simp (disch := omega) [mX8_near_b63, Option.bind_some, nI_leE, nI_ltE, nI_eqE, nI_1, nI_add, rdI_n, rdL_n, wrI_n, wrL_n, has6b, has9b, bI_0, bI_1, nI_m1, nI_lt0, nI_le0, nI_0le, nI_eq0, leF, leT, ltF, ltT, eqF, s, g]
        · simp (disch := omega) [mX8_near_b63, Option.bind_some, nI_leE, nI_ltE, nI_eqE, nI_1, nI_add, rdI_n, rdL_n, wrI_n, wrL_n, has6b, has9b, bI_0, bI_1, nI_m1, nI_lt0, nI_le0, nI_0le, nI_eq0, leF, leT, ltF, ltT, eqF]
        · cases fstB (fun i => decide (nI (rkB (sqE (ca 27) (ca 28) a1 a2) i N) = a3)) N <;> rfl
      have e9 : mX9_near F a1 a2 a3 (ci 14) (ci 15) (ca 81) (ca 82) = some (oI (fstB (fun i => decide (nI (rkB (sqE (ca 81) (ca 82) a1 a2) i N) = a3)) N), 0) := by
        unfold mX9_near
        rw [i15, isInI9, isInI9, l_m9999, l_9999, decide_eq_true c1, decide_eq_true c2]
        simp only [Option.bind_some, bI_0]
        rw [if_neg (by decide), if_neg (by decide)]
        refine (lpS nI (fun i => decide (nI (rkB (sqE (ca 81) (ca 82) a1 a2) i N) = a3)) N (fun k => (nI k, (0 : Int32))) (-1, 0) rfl (fun k hk _ => ?_) (fun _ => ?_) (by omega)).trans ?_
        · have s := rank9 (F := F) (xs := ca 81) (ys := ca 82) (by omega) hN hk a1 a2
          by_cases g : nI (rkB (sqE (ca 81) (ca 82) a1 a2) k N) = a3 <;> simp (disch := omega) [mX9_near_b40, Option.bind_some, nI_leE, nI_ltE, nI_eqE, nI_1, nI_add, rdI_n, rdL_n, wrI_n, wrL_n, has6b, has9b, bI_0, bI_1, nI_m1, nI_lt0, nI_le0, nI_0le, nI_eq0, leF, leT, ltF, ltT, eqF, s, g]
        · simp (disch := omega) [mX9_near_b40, Option.bind_some, nI_leE, nI_ltE, nI_eqE, nI_1, nI_add, rdI_n, rdL_n, wrI_n, wrL_n, has6b, has9b, bI_0, bI_1, nI_m1, nI_lt0, nI_le0, nI_0le, nI_eq0, leF, leT, ltF, ltT, eqF]
        · cases fstB (fun i => decide (nI (rkB (sqE (ca 81) (ca 82) a1 a2) i N) = a3)) N <;> rfl
      refine ⟨_, _, e8, e9, congrArg oI (fstB_congr (fun k hk => ?_)), h0⟩
      rw [rkB_congr (fun j hj => sqE_congr (rows_eq r1 r2) a1 a2 hj) hk]
    · have e8 : mX8_near F a1 a2 a3 (ci 9) (ca 27) (ca 28) (ca 37) = some (-1, ca 37) := by
        unfold mX8_near
        rw [isNear8, isNear8, decide_eq_true c1, decide_eq_false c2]
        rfl
      have e9 : mX9_near F a1 a2 a3 (ci 14) (ci 15) (ca 81) (ca 82) = some (-1, 0) := by
        unfold mX9_near
        rw [isInI9, isInI9, l_m9999, l_9999, decide_eq_true c1, decide_eq_false c2]
        rfl
      exact ⟨_, _, e8, e9, rfl, h0⟩
  · have e8 : mX8_near F a1 a2 a3 (ci 9) (ca 27) (ca 28) (ca 37) = some (-1, ca 37) := by
      unfold mX8_near
      rw [isNear8, decide_eq_false c1]
      rfl
    have e9 : mX9_near F a1 a2 a3 (ci 14) (ci 15) (ca 81) (ca 82) = some (-1, 0) := by
      unfold mX9_near
      rw [isInI9, l_m9999, l_9999, decide_eq_false c1]
      rfl
    exact ⟨_, _, e8, e9, rfl, h0⟩
theorem tr2_pq {X Y : Nat → Nat} {N : Nat} (hN : N ≤ 24) {aparts fs firsts ja os parts pa roots seconds : Nat → Int32} {pairs : Nat → Int64} (h : TR2 X Y N aparts fs firsts ja os parts pa roots seconds pairs) :
    ∀ j, j < N - 1 → firsts j = nI (fP (KK X Y N) j) ∧ seconds j = nI (fQ (KK X Y N) j) ∧ fP (KK X Y N) j < 100 ∧ fQ (KK X Y N) j < 100 := fun j hj => by
  have a := h.1 j hj
  have b := KK_lt (X := X) (Y := Y) hN hj
  exact ⟨a.2.2.1, a.2.2.2.2.2.2.1, by omega, by omega⟩
theorem tr9_pq {X Y : Nat → Nat} {N : Nat} (hN : N ≤ 24) {aj ap first made one other second wide : Nat → Int32} (h : TR9 X Y N aj ap first made one other second wide) :
    ∀ j, j < N - 1 → first j = nI (fP (KK X Y N) j) ∧ second j = nI (fQ (KK X Y N) j) ∧ fP (KK X Y N) j < 100 ∧ fQ (KK X Y N) j < 100 := fun j hj => by
  have a := h.1 j hj
  have b := KK_lt (X := X) (Y := Y) hN hj
  exact ⟨a.1, a.2.1, by omega, by omega⟩
theorem call_point {F : Nat} (hF : 5000 ≤ F) : Call_point F INV := by
  intro ca cl ci fr a1 a2 h
  have h0 := h
  obtain ⟨N, M, S, X, Y, W, U, V, Z, ⟨g1, g2, g3, g4, g5, g6⟩, ⟨i8, i9, i15, i2, i3, i18, i19⟩, ⟨r1, r2, r3⟩, h4, h5, h6, h7⟩ := h
  have hN := g1.1
  have p8 := isPoint8 F hN a1
  have p9 := isPoint9 F hN a1
  by_cases c : 0 ≤ a1.toInt ∧ a1.toInt < N
  · obtain ⟨p, hp, rfl⟩ : ∃ p, p < N ∧ a1 = nI p := (pt_or a1 (N := N) (by omega)).resolve_right (by omega)
    rw [decide_eq_true c] at p8 p9
    have ⟨x1, x2, x3⟩ := r1 p hp
    have ⟨y1, y2, y3⟩ := r2 p hp
    have n4 := near4 (F := F) (by omega) hN (rows_pt r1) g1.2.1 hp
    have n9 := near9 (F := F) (by omega) hN (rows_pt r2) g1.2.1 hp
    have l2 := links2 (F := F) (p := p) (by omega) (by omega) (by omega) (tr2_pq hN h4)
    have l9 := links9 (F := F) (p := p) (by omega) hN (by omega) (tr9_pq hN h6)
    have key : ∀ v : Int32, mX8_point F (nI p) a2 (ci 8) (ci 9) (ca 21) (ca 26) (ca 27) (ca 28) (ca 31) = some v → mX9_point F (nI p) a2 (ci 14) (ci 15) (ca 63) (ca 70) (ca 73) (ca 81) (ca 82) = some (v, 0) →
        ∃ r8 : Int32, ∃ r9 : Int32 × Int32, mX8_point F (nI p) a2 (ci 8) (ci 9) (ca 21) (ca 26) (ca 27) (ca 28) (ca 31) = some r8 ∧ mX9_point F (nI p) a2 (ci 14) (ci 15) (ca 63) (ca 70) (ca 73) (ca 81) (ca 82) = some r9 ∧ r8 = r9.1 ∧ INV ca cl (fun j => cond (Nat.beq j 14) ((r9.2)) (ci j)) :=
      fun v e8 e9 => ⟨_, _, e8, e9, rfl, h0⟩
    have k0 : ((bI true : Int32) = 0) = False := by decide +kernel
    by_cases q0 : a2 = 0
    · subst q0
      refine key (nI (X p)) ?_ ?_
      · simp (disch := omega) only [mX8_point, i9, p8, Option.bind_some, k0, if_false, if_true, rdI_n, x2]
      · simp (disch := omega) only [mX9_point, i15, p9, Option.bind_some, k0, if_false, if_true, rdI_n, y2]
    · by_cases q1 : a2 = 1
      · subst q1
        refine key (nI (Y p)) ?_ ?_
        · simp (disch := omega) only [mX8_point, i9, p8, Option.bind_some, k0, q0, if_false, if_true, rdI_n, x3]
        · simp (disch := omega) only [mX9_point, i15, p9, Option.bind_some, k0, q0, if_false, if_true, rdI_n, y3]
      · by_cases q2 : a2 = 2
        · subst q2
          refine key (nI (W p)) ?_ ?_
          · simp (disch := omega) only [mX8_point, i9, p8, Option.bind_some, k0, q0, q1, if_false, if_true, rdI_n, x1]
          · simp (disch := omega) only [mX9_point, i15, p9, Option.bind_some, k0, q0, q1, if_false, if_true, rdI_n, y1]
        · by_cases q3 : a2 = 3
          · subst q3
            have q5 : ((3 : Int32) = 5) = False := by decide +kernel
            refine key (oI (neB X Y p N)) ?_ ?_
            · simp (disch := omega) only [mX8_point, i9, p8, Option.bind_some, k0, q0, q1, q2, if_false, if_true, n4]
            · simp (disch := omega) only [mX9_point, mX9_point_j73, i15, p9, Option.bind_some, k0, q0, q1, q2, q5, if_false, if_true, n9]
              split <;> rfl
          · by_cases q4 : a2 = 4
            · subst q4
              have q5 : ((4 : Int32) = 5) = False := by decide +kernel
              cases hn : neB X Y p N with
              | none =>
                refine key (-1) ?_ ?_
                · simp (disch := omega) only [mX8_point, mX4_apartFromNearest, i9, p8, Option.bind_some, k0, q0, q1, q2, q3, if_false, if_true, n4, hn, oI]
                · simp (disch := omega) only [mX9_point, mX9_point_j73, i15, p9, Option.bind_some, k0, q0, q1, q2, q3, q5, if_false, if_true, n9, hn, oI]
              | some b =>
                have ⟨b1, b2⟩ := bstB_lt hn
                have m1 := nI_m1 (a := b) (by omega)
                have a4 := apart4 (F := F) hN (rows_pt r1) g1.2.1 hp b1
                have a9 := apart9 (F := F) hN (rows_pt r2) g1.2.1 hp b1
                refine key (nI (ap X Y p b)) ?_ ?_
                · simp (disch := omega) only [mX8_point, mX4_apartFromNearest, i9, p8, Option.bind_some, k0, q0, q1, q2, q3, if_false, if_true, n4, hn, oI, m1, a4]
                · simp (disch := omega) only [mX9_point, mX9_point_j73, i15, p9, Option.bind_some, k0, q0, q1, q2, q3, q5, if_false, if_true, n9, hn, oI, m1, a9]
            · by_cases q5 : a2 = 5
              · subst q5
                refine key (nI (lkB (fP (KK X Y N)) (fQ (KK X Y N)) p (N - 1))) ?_ ?_
                · simp (disch := omega) only [mX8_point, i8, i9, p8, Option.bind_some, k0, q0, q1, q2, q3, q4, if_false, if_true, l2]
                · simp (disch := omega) only [mX9_point, i15, p9, Option.bind_some, k0, q0, q1, q2, if_false, if_true, l9]
              · refine key (-1) ?_ ?_
                · simp (disch := omega) only [mX8_point, i9, p8, Option.bind_some, k0, q0, q1, q2, q3, q4, q5, if_false]
                · simp (disch := omega) only [mX9_point, i15, p9, Option.bind_some, k0, q0, q1, q2, q3, q4, q5, if_false]
  · rw [decide_eq_false c] at p8 p9
    have e8 : mX8_point F a1 a2 (ci 8) (ci 9) (ca 21) (ca 26) (ca 27) (ca 28) (ca 31) = some (-1) := by
      unfold mX8_point
      rw [i9, p8]
      rfl
    have e9 : mX9_point F a1 a2 (ci 14) (ci 15) (ca 63) (ca 70) (ca 73) (ca 81) (ca 82) = some (-1, 0) := by
      unfold mX9_point
      rw [i15, p9]
      rfl
    exact ⟨_, _, e8, e9, rfl, h0⟩
theorem tr_pm {X Y : Nat → Nat} {N : Nat} (hN : N ≤ 24) {j : Nat} (hj : j < N - 1) : pmB (fP (KK X Y N)) (fQ (KK X Y N)) j < 2 ^ N := pm_lt (fun i hi => KK_lt hN (by omega))
theorem tr2_pm {X Y : Nat → Nat} {N : Nat} (hN : N ≤ 24) {aparts fs firsts ja os parts pa roots seconds : Nat → Int32} {pairs : Nat → Int64} (h : TR2 X Y N aparts fs firsts ja os parts pa roots seconds pairs) :
    ∀ j, j < N - 1 → parts j = nI (pmB (fP (KK X Y N)) (fQ (KK X Y N)) j) ∧ pmB (fP (KK X Y N)) (fQ (KK X Y N)) j < 2 ^ 31 := fun j hj => ⟨(h.1 j hj).2.2.2.2.1, lt31 (tr_pm hN hj) hN⟩
theorem tr9_pm {X Y : Nat → Nat} {N : Nat} (hN : N ≤ 24) {aj ap first made one other second wide : Nat → Int32} (h : TR9 X Y N aj ap first made one other second wide) :
    ∀ j, j < N - 1 → made j = nI (pmB (fP (KK X Y N)) (fQ (KK X Y N)) j) ∧ pmB (fP (KK X Y N)) (fQ (KK X Y N)) j < 2 ^ 31 := fun j hj => ⟨(h.1 j hj).2.2.1, lt31 (tr_pm hN hj) hN⟩
theorem tree_meet {X Y : Nat → Nat} {N : Nat} (hN : N ≤ 24) {p q : Nat} (hp : p < N) (hq : q < N) (hne : p ≠ q) : ∃ j, j < N - 1 ∧ meB (fP (KK X Y N)) (fQ (KK X Y N)) p q (N - 1) = some j := by
  obtain ⟨j, j1, j2, j3⟩ := sm_in hne (tree_all (X := X) (Y := Y) hN hp hq)
  cases e : meB (fP (KK X Y N)) (fQ (KK X Y N)) p q (N - 1) with
  | some k => exact ⟨k, fstB_lt e, rfl⟩
  | none =>
    have := fstB_none.mp e j j1
    simp [j2, j3] at this
theorem call_meets {F : Nat} (hF : 5000 ≤ F) : Call_meets F INV := by
  intro ca cl ci fr a1 a2 h
  have h0 := h
  obtain ⟨N, M, S, X, Y, W, U, V, Z, ⟨g1, g2, g3, g4, g5, g6⟩, ⟨i8, i9, i15, i2, i3, i18, i19⟩, ⟨r1, r2, r3⟩, h4, h5, h6, h7⟩ := h
  have hN := g1.1
  have p8 := isPoint8 F hN
  have p9 := isPoint9 F hN
  have k0 : ((bI true : Int32) = 0) = False := by decide +kernel
  have k1 : ((bI false : Int32) = 0) = True := by decide +kernel
  by_cases c : (0 ≤ a1.toInt ∧ a1.toInt < N) ∧ 0 ≤ a2.toInt ∧ a2.toInt < N
  · obtain ⟨p, hp, rfl⟩ : ∃ p, p < N ∧ a1 = nI p := (pt_or a1 (N := N) (by omega)).resolve_right (by omega)
    obtain ⟨q, hq, rfl⟩ : ∃ p, p < N ∧ a2 = nI p := (pt_or a2 (N := N) (by omega)).resolve_right (by omega)
    have m2 := meet2 (F := F) (p := p) (q := q) (by omega) (show N - 1 ≤ 24 by omega) (by omega) (by omega) (tr2_pm hN h4)
    have ep := p8 (nI p)
    have eq := p8 (nI q)
    have fp := p9 (nI p)
    have fq := p9 (nI q)
    rw [decide_eq_true c.1] at ep fp
    rw [decide_eq_true c.2] at eq fq
    by_cases e : p = q
    · subst e
      have e8 : mX8_meets F (nI p) (nI p) (ci 8) (ci 9) (ca 25) = some (-1) := by
        rw [if_pos rfl] at m2
        unfold mX8_meets
        rw [i9, i8, ep, m2]
        simp only [Option.bind_some, k0, if_false, oI]
      have e9 : mX9_meets F (nI p) (nI p) (ci 14) (ci 15) (ca 64) = some (-1, 0) := by
        unfold mX9_meets
        rw [i15, fp]
        simp only [Option.bind_some, k0, if_false, if_true]
      exact ⟨_, _, e8, e9, rfl, h0⟩
    · obtain ⟨j, j1, j2⟩ := tree_meet (X := X) (Y := Y) hN hp hq e
      have m9 := meet9 (F := F) (p := p) (q := q) (by omega) hN (by omega) (by omega) (tr9_pm hN h6) j2
      have e8 : mX8_meets F (nI p) (nI q) (ci 8) (ci 9) (ca 25) = some (nI j) := by
        rw [if_neg e, j2] at m2
        unfold mX8_meets
        rw [i9, i8, ep, eq, m2]
        simp only [Option.bind_some, k0, if_false, oI]
      have e9 : mX9_meets F (nI p) (nI q) (ci 14) (ci 15) (ca 64) = some (nI j, 0) := by
        have en : ¬ nI p = nI q := by rw [nI_eqE (by omega) (by omega)]; exact e
        unfold mX9_meets
        rw [i15, fp, fq]
        simp only [Option.bind_some, k0, if_false, en, m9]
      exact ⟨_, _, e8, e9, rfl, h0⟩
  · have e8 : mX8_meets F a1 a2 (ci 8) (ci 9) (ca 25) = some (-1) := by
      unfold mX8_meets
      rw [i9, p8, p8]
      by_cases c1 : 0 ≤ a1.toInt ∧ a1.toInt < N
      · rw [decide_eq_true c1, decide_eq_false (fun c2 => c ⟨c1, c2⟩)]
        simp only [Option.bind_some, k0, k1, if_false, if_true]
      · rw [decide_eq_false c1]
        simp only [Option.bind_some, k1, if_true]
    have e9 : mX9_meets F a1 a2 (ci 14) (ci 15) (ca 64) = some (-1, 0) := by
      unfold mX9_meets
      rw [i15, p9, p9]
      by_cases c1 : 0 ≤ a1.toInt ∧ a1.toInt < N
      · rw [decide_eq_true c1, decide_eq_false (fun c2 => c ⟨c1, c2⟩)]
        simp only [Option.bind_some, k0, k1, if_false, if_true]
      · rw [decide_eq_false c1]
        simp only [Option.bind_some, k1, if_true]
    exact ⟨_, _, e8, e9, rfl, h0⟩
theorem tr2_pair {X Y : Nat → Nat} {N : Nat} (hN : N ≤ 24) (hI : IN N X Y) {aparts fs firsts ja os parts pa roots seconds : Nat → Int32} {pairs : Nat → Int64} (h : TR2 X Y N aparts fs firsts ja os parts pa roots seconds pairs) :
    ∀ j, j < N - 1 → pairs j = lN (pairB X Y (KK X Y N) j) ∧ pairB X Y (KK X Y N) j < 2 ^ 63 := fun j hj => ⟨(h.1 j hj).2.2.2.2.2.2.2, by have := pairB_lt hI (KK_lt (X := X) (Y := Y) hN hj); omega⟩
theorem tr_both {X Y U V : Nat → Nat} {N M : Nat} {xs ys : Nat → Int32} (hP : PT N X Y xs ys) {aj ap first made one other second wide place wone wother wwide : Nat → Int32} (h : TR9 X Y N aj ap first made one other second wide) (h2 : WAS M U V place wone wother wwide) :
    BOTH N M X Y U V xs ys first second wone wother := ⟨hP, fun j hj => ⟨(h.1 j hj).1, (h.1 j hj).2.1⟩, fun k hk => ⟨(h2.2 k hk).1, (h2.2 k hk).2.1⟩⟩
theorem call_repaired {F : Nat} (hF : 5000 ≤ F) : Call_repaired F INV := by
  intro ca cl ci fr a1 h
  have h0 := h
  obtain ⟨N, M, S, X, Y, W, U, V, Z, ⟨g1, g2, g3, g4, g5, g6⟩, ⟨i8, i9, i15, i2, i3, i18, i19⟩, ⟨r1, r2, r3⟩, h4, h5, h6, h7⟩ := h
  have hN := g1.1
  have hM := g2.1
  have hB := tr_both (rows_pt r2) h6 h7
  have pN := tr2_pair hN g1.2.1 h4
  have pM := tr2_pair hM g2.2.1 h5
  have key : ∀ v : Int32, mX8_repaired F a1 (ci 2) (ci 8) (ca 0) (cl 2) (ca 19) (cl 5) = some v → mX9_repaired F a1 (ci 14) (ci 15) (ci 18) (ci 19) (ca 63) (ca 70) (ca 74) (ca 75) (ca 78) (ca 80) (ca 81) (ca 82) = some (v, 0) →
      ∃ r8 : Int32, ∃ r9 : Int32 × Int32, mX8_repaired F a1 (ci 2) (ci 8) (ca 0) (cl 2) (ca 19) (cl 5) = some r8 ∧ mX9_repaired F a1 (ci 14) (ci 15) (ci 18) (ci 19) (ca 63) (ca 70) (ca 74) (ca 75) (ca 78) (ca 80) (ca 81) (ca 82) = some r9 ∧ r8 = r9.1 ∧ INV ca cl (fun j => cond (Nat.beq j 14) ((r9.2)) (ci j)) :=
    fun v e8 e9 => ⟨_, _, e8, e9, rfl, h0⟩
  by_cases q0 : a1 = 0
  · subst q0
    have u := unlike2 (F := F) (by omega) (by omega) (by omega) pN pM
    have n9 := newOnes9 (F := F) (by omega) g1 g2 hB i19
    refine key (nI (cntB (fun j => !hpB (pairB U V (KK U V M)) (pairB X Y (KK X Y N) j) (M - 1)) (N - 1))) ?_ ?_
    · simp only [mX8_repaired, i2, i8, u, Option.bind_some, if_true]
    · simp only [mX9_repaired, i15, i18, n9, Option.bind_some, if_true]
  · by_cases q1 : a1 = 1
    · subst q1
      have u := unlike2 (F := F) (by omega) (by omega) (by omega) pM pN
      have n9 := gone9 (F := F) (wide := ca 78) (by omega) g1 g2 hB i19
      refine key (nI (cntB (fun j => !hpB (pairB X Y (KK X Y N)) (pairB U V (KK U V M) j) (N - 1)) (M - 1))) ?_ ?_
      · simp only [mX8_repaired, i2, i8, u, Option.bind_some, if_true, q0, if_false]
      · simp only [mX9_repaired, i15, i18, n9, Option.bind_some, if_true, q0, if_false]
    · by_cases q2 : a1 = 2
      · subst q2
        have u1 := sumA2 (F := F) (n := N - 1) (by omega) (by omega) (fun j hj => (h4.1 j hj).1)
        have u2 := sumA2 (F := F) (n := M - 1) (by omega) (by omega) (fun j hj => (h5.1 j hj).1)
        have n1 := newA9 (F := F) (by omega) g1 g2 hB i19 (wide := ca 80) (fun j hj => (h6.1 j hj).2.2.2.2.2)
        have n2 := goneA9 (F := F) (by omega) g1 g2 hB i19 (wide := ca 78) (fun j hj => (h7.2 j hj).2.2)
        have q3 : ((2 : Int32) = 3) = False := by decide +kernel
        refine key (nI (sumB (fun j => KK X Y N j / 1024) (N - 1)) - nI (sumB (fun k => KK U V M k / 1024) (M - 1))) ?_ ?_
        · simp only [mX8_repaired, i2, i8, u1, u2, Option.bind_some, if_true, q0, q1, if_false]
        · rw [← diff_sum g1 g2]
          simp only [mX9_repaired, i15, i18, n1, n2, Option.bind_some, if_true, q0, q1, q3, if_false]
      · by_cases q3 : a1 = 3
        · subst q3
          have u := same2 (F := F) (by omega) (by omega) (by omega) pN pM
          have n9 := asWere9 (F := F) (by omega) g1 g2 hB i19
          refine key (nI (sfB (pairB X Y (KK X Y N)) (pairB U V (KK U V M)) (min (N - 1) (M - 1)))) ?_ ?_
          · simp only [mX8_repaired, i2, i8, u, Option.bind_some, if_true, q0, q1, q2, if_false]
          · simp only [mX9_repaired, i15, i18, n9, Option.bind_some, if_true, q0, q1, if_false]
        · refine key (-2) ?_ ?_
          · simp only [mX8_repaired, q0, q1, q2, q3, if_false]
          · simp only [mX9_repaired, q0, q1, q2, q3, if_false]
