/-! ===== PURE 35: call label ===== -/
theorem with0 {F N : Nat} {s X Y W : Nat → Nat} {cnt : Int32} {groupAt sets weights xs ys holders : Nat → Int32} {c : Nat → Nat} (hF : 1000 ≤ F) (hN : N ≤ 24) (h : SCALE N s X Y W cnt groupAt sets weights xs ys) (i : Int32) (hH : ∀ p, p < N → hdB s p = true → holders (ixB s p) = nI (c p)) :
    mX0_countedWith F i cnt holders = some (nI (mkB (fun g => decide (holders g = i)) (ixB s N))) ∧ ∀ p, p < N → hdB s p = true → decide (holders (ixB s p) = i) = decide (nI (c p) = i) := by
  have ixN := ix_lt (s := s) (p := N)
  refine ⟨?_, fun p hp hd => by rw [hH p hp hd]⟩
  unfold mX0_countedWith
  rw [show cnt = nI (ixB s N) from h.1]
  refine lp (fun k => (nI (mkB (fun g => decide (holders g = i)) k), nI k)) 0 (ixB s N) _ (by omega) rfl (fun k _ hk => ?_) ?_ (by omega)
  · have hs := setbit (mk_lt31 (fun g => decide (holders g = i)) (k := k) (by omega)) (k := k) (by omega)
    unfold mX0_countedWith_b5
    simp only []
    rw [if_neg (show ¬ nI (ixB s N) ≤ nI k by rw [nI_leE (by omega) (by omega)]; omega), rdI_n (by omega) (by omega), Option.bind_some, hs, nI_1]
    simp only [mkB]
    by_cases e : holders k = i
    · rw [if_pos e, Option.bind_some, if_pos (decide_eq_true e)]
    · rw [if_neg e, if_neg (by rw [decide_eq_false e]; decide)]
  · unfold mX0_countedWith_b5
    simp only []
    rw [if_pos (by rw [nI_leE (by omega) (by omega)]; omega)]
theorem lab9 {F N C n : Nat} {s X Y W L : Nat → Nat} {w x y ranked shown part : Nat → Int32} {c : Nat → Nat} (hF : 1000 ≤ F) (gd : GOOD N X Y W) (hP : ROWS N X Y W w x y) (hS : PART N s) (hC : C ≤ 24) (i what : Int32)
    (hL : ∀ j, j < C → L j < N ∧ ranked j = nI (s (L j)) ∧ mX9_countedBy F (nI (s (L j))) (nI N) (nI n) shown w x y = some (nI (c (L j)))) :
    loop (fun s80 : Int32 × Int32 × Int32 => mX9_label_b80 F i what (nI N) w x y (nI C) (nI n) part ranked shown s80.1 s80.2.1 s80.2.2) F ((0 : Int32), (0 : Int32), (0 : Int32)) =
      some (if what = 1 then nI (sumB (fun j => if decide (nI (c (L j)) = i) = true then wtB W (s (L j)) N else 0) C) else nI (cntB (fun j => decide (nI (c (L j)) = i)) C) - 1, nI C, nI n, 0, part, ranked, shown) := by
  have hN := gd.1
  refine lp (fun k => (nI (sumB (fun j => if decide (nI (c (L j)) = i) = true then wtB W (s (L j)) N else 0) k), nI (cntB (fun j => decide (nI (c (L j)) = i)) k), nI k)) 0 C _ (by omega) rfl (fun k _ hk => ?_) ?_ (by omega)
  · have ⟨l1, l2, l3⟩ := hL k hk
    have ⟨p24, _⟩ := part_24 hN hS l1
    unfold mX9_label_b80
    simp only []
    rw [if_neg (show ¬ nI C ≤ nI k by rw [nI_leE (by omega) (by omega)]; omega), rdI_n (by omega) (by omega), Option.bind_some, l2, l3, Option.bind_some, Option.bind_some, weight9 hF hN (by omega) (rows_w hP), Option.bind_some, Option.bind_some, Option.bind_some, nI_add, nI_1, nI_1]
    simp only [sumB, cntB]
    by_cases e : nI (c (L k)) = i
    · rw [if_pos e, if_pos (decide_eq_true e), if_pos (decide_eq_true e)]
    · rw [if_neg e, if_neg (by rw [decide_eq_false e]; decide), if_neg (by rw [decide_eq_false e]; decide)]
      rfl
  · unfold mX9_label_b80
    simp only []
    rw [if_pos (show nI C ≤ nI C by rw [nI_leE (by omega) (by omega)]; omega)]
    by_cases e : what = 1
    · rw [if_pos e, if_pos e]
    · rw [if_neg e, if_neg e]
theorem call_label {F : Nat} (hF : 5000 ≤ F) : Call_label F INV := by
  intro ca cl ci fr a1 a2 a3 h
  have h0 := h
  obtain ⟨N, M, S, X, Y, W, U, V, Z, ⟨g1, g2, g3, g4, g5, g6⟩, ⟨i8, i9, i15, i2, i3, i18, i19⟩, ⟨r1, r2, r3⟩, h4, h5, h6, h7⟩ := h
  have hN := g1.1
  have i_2 : (2 : Int32).toInt = 2 := by decide +kernel
  rcases zm_or a1 with ⟨z, hz, rfl, z1, z2⟩ | hz
  · have hS := szB_part (X := X) (Y := Y) (z := z) hN
    have z8 := isZoom8 F (nI z)
    have z9 := isZoom9 F (nI z)
    rw [decide_eq_true (p := 0 ≤ (nI z).toInt ∧ (nI z).toInt ≤ 10) ⟨z1, z2⟩] at z8 z9
    have i9' := isInI9 F a3 0 2
    rw [l_0, l_2] at i9'
    obtain ⟨r, er, gr, l1, l2, l3⟩ := lay8 (F := F) (by omega) g1 r1 h4 hz g3 i8 i9 g4 (ci 5) (ci 11) (ca 14) (ca 15) (ca 38) (ca 39) (ca 40) (ca 41) (ca 42)
    obtain ⟨t, et, t1, t2, t3, t4, t5⟩ := lays9 (F := F) (by omega) g1 hz g3 h6 r2 i15 g5 (ci 23) (ci 24) (ca 68) (ca 69) (ca 72)
    have ⟨s1, s2, s3, s4⟩ := sh_spec (X := X) (Y := Y) (W := W) (R := S / 2 ^ z) (s := szB X Y N z) (N := N) (i := ixB (szB X Y N z) N) (Nat.le_refl _)
    have hix : ixB (szB X Y N z) N ≤ N := ix_lt
    have sn := isInI9 F a2 0 (t.2.1.toInt64 - 1)
    rw [l_0, t2, nl_1 (by omega)] at sn
    have hr1 : r.1.toInt = ((shB X Y W N (szB X Y N z) (S / 2 ^ z) (ixB (szB X Y N z) N)).1 : Int) := by rw [l1, tI_n (by omega)]
    by_cases c : 0 ≤ a2.toInt ∧ a2.toInt < ((shB X Y W N (szB X Y N z) (S / 2 ^ z) (ixB (szB X Y N z) N)).1 : Int)
    · obtain ⟨k, hk, rfl⟩ : ∃ k, k < (shB X Y W N (szB X Y N z) (S / 2 ^ z) (ixB (szB X Y N z) N)).1 ∧ a2 = nI k := (pt_or a2 (N := (shB X Y W N (szB X Y N z) (S / 2 ^ z) (ixB (szB X Y N z) N)).1) (by omega)).resolve_right (by omega)
      have npos : 0 < (shB X Y W N (szB X Y N z) (S / 2 ^ z) (ixB (szB X Y N z) N)).1 := by omega
      have ⟨v1, v2⟩ := s2 k hk
      have x0 : ¬ nI k < 0 := by rw [nI_lt0 (by omega)]; exact id
      have x1 : nI k < r.1 := by rw [tI_lt, hr1]; exact c.2
      have hH : ∀ p, p < N → hdB (szB X Y N z) p = true → r.2.2.1 (ixB (szB X Y N z) p) = nI ((fun p => cbB (fun k => gpB X Y W N (szB X Y N z) p ((shB X Y W N (szB X Y N z) (S / 2 ^ z) (ixB (szB X Y N z) N)).2 k)) (shB X Y W N (szB X Y N z) (S / 2 ^ z) (ixB (szB X Y N z) N)).1) p) := fun p hp hd => by
        rw [l3 p hp hd, (cb_lt (g := fun k => gpB X Y W N (szB X Y N z) p ((shB X Y W N (szB X Y N z) (S / 2 ^ z) (ixB (szB X Y N z) N)).2 k)) npos).2]
        rfl
      have ⟨w1, w2⟩ := with0 (F := F) (by omega) hN gr (nI k) hH
      have ⟨ra, rb⟩ := rl_spec (s := szB X Y N z) (w := wS W N (szB X Y N z)) N
      have lb := lab9 (F := F) (C := ixB (szB X Y N z) N) (n := (shB X Y W N (szB X Y N z) (S / 2 ^ z) (ixB (szB X Y N z) N)).1) (L := rlB (szB X Y N z) (wS W N (szB X Y N z)) N) (ranked := t.2.2.2.1) (shown := t.2.2.2.2) (part := t.2.2.1) (c := (fun p => cbB (fun k => gpB X Y W N (szB X Y N z) p ((shB X Y W N (szB X Y N z) (S / 2 ^ z) (ixB (szB X Y N z) N)).2 k)) (shB X Y W N (szB X Y N z) (S / 2 ^ z) (ixB (szB X Y N z) N)).1)) (by omega) g1 r2 hS (by omega) (nI k) a3
        (fun j hj => ⟨(ra j hj).1, t4 j hj, by9 (F := F) (V := (shB X Y W N (szB X Y N z) (S / 2 ^ z) (ixB (szB X Y N z) N)).2) (by omega) g1 r2 hS (by omega) (ra j hj).1 (ra j hj).2 (fun k hk => ⟨(s2 k hk).1, (s2 k hk).2, t5 k hk⟩) s3⟩)
      have ra1 : 0 ≤ (nI k).toInt ∧ (nI k).toInt ≤ ((shB X Y W N (szB X Y N z) (S / 2 ^ z) (ixB (szB X Y N z) N)).1 : Int) - 1 := by omega
      rw [decide_eq_true ra1] at sn
      have pre8 : ∀ v, (if a3 = (0 : Int32) then ((rdI 24 r.2.2.2.1 (nI k)).bind fun v8 => some (v8, r.1, r.2.1, r.2.2.1, r.2.2.2.1, r.2.2.2.2.1, r.2.2.2.2.2.1, r.2.2.2.2.2.2.1, r.2.2.2.2.2.2.2.1, r.2.2.2.2.2.2.2.2)) else if a3 = (1 : Int32) then ((mX5_weightOf F (nI (mkB (fun g => decide (r.2.2.1 g = nI k)) (ixB (szB X Y N z) N))) r.2.1 r.2.2.2.2.2.2.1).bind fun r10 => some (r10, r.1, r.2.1, r.2.2.1, r.2.2.2.1, r.2.2.2.2.1, r.2.2.2.2.2.1, r.2.2.2.2.2.2.1, r.2.2.2.2.2.2.2.1, r.2.2.2.2.2.2.2.2)) else if a3 = (2 : Int32) then ((some (bitCnt (nI (mkB (fun g => decide (r.2.2.1 g = nI k)) (ixB (szB X Y N z) N))))).bind fun v12 => some ((v12 - (1 : Int32)), r.1, r.2.1, r.2.2.1, r.2.2.2.1, r.2.2.2.2.1, r.2.2.2.2.2.1, r.2.2.2.2.2.2.1, r.2.2.2.2.2.2.2.1, r.2.2.2.2.2.2.2.2)) else some ((-1 : Int32), r.1, r.2.1, r.2.2.1, r.2.2.2.1, r.2.2.2.2.1, r.2.2.2.2.2.1, r.2.2.2.2.2.2.1, r.2.2.2.2.2.2.2.1, r.2.2.2.2.2.2.2.2)) = some (v, r) → mX8_label F (nI z) (nI k) a3 (ci 0) (ci 5) (ci 8) (ci 9) (ci 11) (ca 14) (ca 15) (ca 19) (ca 25) (ca 26) (ca 27) (ca 28) (ca 38) (ca 39) (ca 40) (ca 41) (ca 42) = some (v, r) := fun v hv => by
        unfold mX8_label
        rw [z8, Option.bind_some, if_neg (by rw [k0T]; exact id), er, Option.bind_some, if_neg x0, if_pos x1, w1, Option.bind_some]
        exact hv
      have pre9 : (0 ≤ a3.toInt ∧ a3.toInt ≤ 2) → ∀ v, (if a3 = 0 then ((rdI 24 t.2.2.2.2 (nI k)).bind fun v19 => (mX9_least F v19).bind fun r20 => (mX9_numberOf F r20 t.2.2.1).bind fun r21 => some (r21, t.1, t.2.1, (0 : Int32), t.2.2.1, t.2.2.2.1, t.2.2.2.2)) else (loop (fun s80 : Int32 × Int32 × Int32 => mX9_label_b80 F (nI k) a3 (nI N) (ca 73) (ca 81) (ca 82) t.1 t.2.1 t.2.2.1 t.2.2.2.1 t.2.2.2.2 s80.1 s80.2.1 s80.2.2) F ((0 : Int32), (0 : Int32), (0 : Int32)))) = some (v, t.1, t.2.1, 0, t.2.2.1, t.2.2.2.1, t.2.2.2.2) → mX9_label F (nI z) (nI k) a3 (ci 14) (ci 15) (ci 16) (ci 23) (ci 24) (ca 64) (ca 68) (ca 69) (ca 72) (ca 73) (ca 80) (ca 81) (ca 82) = some (v, t.1, t.2.1, 0, t.2.2.1, t.2.2.2.1, t.2.2.2.2) := fun q v hv => by
        unfold mX9_label
        rw [z9, Option.bind_some, if_neg (by rw [k0T]; exact id), i9', decide_eq_true q, Option.bind_some, if_neg (by rw [k0T]; exact id), et, Option.bind_some, t2, sn, Option.bind_some, if_neg (by rw [k0T]; exact id), ← t2, i15]
        exact hv
      by_cases q0 : a3 = 0
      · subst q0
        have ⟨w24, w0⟩ := part_24 hN hS v1
        have elv : lo (szB X Y N z ((shB X Y W N (szB X Y N z) (S / 2 ^ z) (ixB (szB X Y N z) N)).2 k)) = (shB X Y W N (szB X Y N z) (S / 2 ^ z) (ixB (szB X Y N z) N)).2 k := of_decide_eq_true v2
        have n9 := number9 (F := F) (by omega) hN hS t3 v1
        rw [elv] at n9
        have e8 := pre8 (nI (ixB (szB X Y N z) ((shB X Y W N (szB X Y N z) (S / 2 ^ z) (ixB (szB X Y N z) N)).2 k))) (by rw [if_pos rfl, rdI_n (by omega) (by omega), Option.bind_some, l2 k hk])
        have e9 := pre9 (by rw [i_0]; omega) (nI (ixB (szB X Y N z) ((shB X Y W N (szB X Y N z) (S / 2 ^ z) (ixB (szB X Y N z) N)).2 k))) (by rw [if_pos rfl, rdI_n (by omega) (by omega), Option.bind_some, t5 k hk, least9s (by omega) w24 w0, Option.bind_some, elv, n9, Option.bind_some])
        exact ⟨_, _, e8, e9, rfl, h0⟩
      · by_cases q1 : a3 = 1
        · subst q1
          rw [if_pos rfl] at lb
          have w5 := weight5 (F := F) (P := fun g => decide (r.2.2.1 g = nI k)) (Q := fun p => decide (nI (cbB (fun k => gpB X Y W N (szB X Y N z) p ((shB X Y W N (szB X Y N z) (S / 2 ^ z) (ixB (szB X Y N z) N)).2 k)) (shB X Y W N (szB X Y N z) (S / 2 ^ z) (ixB (szB X Y N z) N)).1) = nI k)) (by omega) hN (fun i hi => (g1.2.2.1 i hi).2) gr w2
          rw [rl_sum (w := wS W N (szB X Y N z))] at w5
          have e8 := pre8 _ (by rw [if_neg q0, if_pos rfl, w5, Option.bind_some])
          have e9 := pre9 (by rw [i_1]; omega) _ (by rw [if_neg q0, t1, t2]; exact lb)
          exact ⟨_, _, e8, e9, rfl, h0⟩
        · by_cases q2 : a3 = 2
          · subst q2
            rw [if_neg q1] at lb
            have b5 := bits_en (s := szB X Y N z) (P := fun g => decide (r.2.2.1 g = nI k)) (Q := fun p => decide (nI (cbB (fun k => gpB X Y W N (szB X Y N z) p ((shB X Y W N (szB X Y N z) (S / 2 ^ z) (ixB (szB X Y N z) N)).2 k)) (shB X Y W N (szB X Y N z) (S / 2 ^ z) (ixB (szB X Y N z) N)).1) = nI k)) hN w2
            rw [rl_cnt (w := wS W N (szB X Y N z))] at b5
            have e8 := pre8 _ (by rw [if_neg q0, if_neg q1, if_pos rfl, b5, Option.bind_some])
            have e9 := pre9 (by rw [i_2]; omega) _ (by rw [if_neg q0, t1, t2]; exact lb)
            exact ⟨_, _, e8, e9, rfl, h0⟩
          · have no : ¬ (0 ≤ a3.toInt ∧ a3.toInt ≤ 2) := by
              intro q
              have e0 : a3.toInt ≠ 0 := fun e => q0 (tI_ext (by rw [e, i_0]))
              have e1 : a3.toInt ≠ 1 := fun e => q1 (tI_ext (by rw [e, i_1]))
              have e2 : a3.toInt ≠ 2 := fun e => q2 (tI_ext (by rw [e, i_2]))
              omega
            have e8 := pre8 (-1) (by rw [if_neg q0, if_neg q1, if_neg q2])
            have e9 : mX9_label F (nI z) (nI k) a3 (ci 14) (ci 15) (ci 16) (ci 23) (ci 24) (ca 64) (ca 68) (ca 69) (ca 72) (ca 73) (ca 80) (ca 81) (ca 82) = some (-1, ci 23, ci 24, 0, ca 68, ca 69, ca 72) := by
              unfold mX9_label
              rw [z9, Option.bind_some, if_neg (by rw [k0T]; exact id), i9', decide_eq_false no, Option.bind_some, if_pos (by rw [k0F]; trivial)]
            exact ⟨_, _, e8, e9, rfl, h0⟩
    · have e8 : mX8_label F (nI z) a2 a3 (ci 0) (ci 5) (ci 8) (ci 9) (ci 11) (ca 14) (ca 15) (ca 19) (ca 25) (ca 26) (ca 27) (ca 28) (ca 38) (ca 39) (ca 40) (ca 41) (ca 42) = some (-1, r) := by
        unfold mX8_label
        rw [z8, Option.bind_some, if_neg (by rw [k0T]; exact id), er, Option.bind_some]
        by_cases q : a2 < 0
        · rw [if_pos q]
        · rw [if_neg q, if_neg (show ¬ a2 < r.1 by rw [tI_lt, i_0] at q; rw [tI_lt, hr1]; omega)]
      have no2 : ¬ (0 ≤ a2.toInt ∧ a2.toInt ≤ ((shB X Y W N (szB X Y N z) (S / 2 ^ z) (ixB (szB X Y N z) N)).1 : Int) - 1) := by omega
      rw [decide_eq_false no2] at sn
      by_cases q : 0 ≤ a3.toInt ∧ a3.toInt ≤ 2
      · have e9 : mX9_label F (nI z) a2 a3 (ci 14) (ci 15) (ci 16) (ci 23) (ci 24) (ca 64) (ca 68) (ca 69) (ca 72) (ca 73) (ca 80) (ca 81) (ca 82) = some (-1, t.1, t.2.1, 0, t.2.2.1, t.2.2.2.1, t.2.2.2.2) := by
          unfold mX9_label
          rw [z9, Option.bind_some, if_neg (by rw [k0T]; exact id), i9', decide_eq_true q, Option.bind_some, if_neg (by rw [k0T]; exact id), et, Option.bind_some, t2, sn, Option.bind_some, if_pos (by rw [k0F]; trivial)]
        exact ⟨_, _, e8, e9, rfl, h0⟩
      · have e9 : mX9_label F (nI z) a2 a3 (ci 14) (ci 15) (ci 16) (ci 23) (ci 24) (ca 64) (ca 68) (ca 69) (ca 72) (ca 73) (ca 80) (ca 81) (ca 82) = some (-1, ci 23, ci 24, 0, ca 68, ca 69, ca 72) := by
          unfold mX9_label
          rw [z9, Option.bind_some, if_neg (by rw [k0T]; exact id), i9', decide_eq_false q, Option.bind_some, if_pos (by rw [k0F]; trivial)]
        exact ⟨_, _, e8, e9, rfl, h0⟩
  · refine ⟨?r8c, ?r9c, ?e8c, ?e9c, ?restc⟩
    case e8c =>
      unfold mX8_label
      rw [isZoom8, decide_eq_false hz, Option.bind_some, if_pos (by rw [k0F]; trivial)]
    case e9c =>
      unfold mX9_label
      rw [isZoom9, decide_eq_false hz, Option.bind_some, if_pos (by rw [k0F]; trivial)]
    case restc => exact ⟨rfl, h0⟩
