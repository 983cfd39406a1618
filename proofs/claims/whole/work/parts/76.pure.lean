/-! ===== PURE 67: calls outline, area ===== -/
theorem crn_or {N : Nat} {s : Nat → Nat} (hS : PART N s) {p : Nat} (hp : p < N) : s p < 2 ^ N ∧ (s p).testBit p = true := ⟨(hS p hp).2.1, (hS p hp).1⟩
theorem call_outline {F : Nat} (hF : 5000 ≤ F) : Call_outline F INV := by
  intro ca cl ci fr a1 a2 a3 h
  have h0 := h
  obtain ⟨N, M, S, X, Y, W, U, V, Z, ⟨g1, g2, g3, g4, g5, g6⟩, ⟨i8, i9, i15, i2, i3, i18, i19⟩, ⟨r1, r2, r3⟩, h4, h5, h6, h7⟩ := h
  have hN := g1.1
  rcases zm_or a1 with ⟨z, hz, rfl, z1, z2⟩ | hz
  · have hS := szB_part (X := X) (Y := Y) (z := z) hN
    obtain ⟨r, er, gr⟩ := cuts8 (F := F) (by omega) g1 r1 h4 hz i8 i9 a2 (ci 11) (ca 38) (ca 39) (ca 40) (ca 41) (ca 42)
    obtain ⟨t, e, gt⟩ := groupSet9 (F := F) (by omega) hN g1.2.1 hz h6 (ca 68) a2
    rw [← i15] at e
    rcases gs_or hN hS a2 with ⟨p, p1, p2, p3, p4, p5, p6⟩ | ⟨p1, p2⟩
    · have ⟨q24, q0⟩ := part_24 hN hS p1
      have ⟨qN, qp⟩ := crn_or hS p1
      have ixl := ix_lt (s := szB X Y N z) (p := p)
      rw [decide_eq_true ⟨p5, p6⟩] at er
      rw [p4] at e
      obtain ⟨d, C, len, ed, H, d1, d2⟩ := draw3 (F := F) (by omega) g1 (rows_pt r1) qN p1 qp (ci 4) (ca 13)
      obtain ⟨u, eu, u1, u2⟩ := lays9o (F := F) (by omega) g1 (rows_pt r2) qN q0 H (ci 21) (ca 62)
      have l24 := H.2.1
      rw [← i9] at ed
      rw [← i15] at eu
      have w9 := isInI9 F a3 0 ((nI len).toInt64 - (1 : Int64))
      rw [l_0, nl_1 (by omega)] at w9
      by_cases c3 : a3 = (-1 : Int32)
      · refine ⟨?r8, ?r9, ?e8, ?e9, ?rest⟩
        case e8 =>
          unfold mX8_outline
          rw [er, Option.bind_some, if_neg (by rw [k0T]; exact id), p3, rdI_n (by omega) (by omega), Option.bind_some, (gr.2.1 p p1 p2).1, ed, Option.bind_some, if_pos c3]
        case e9 =>
          unfold mX9_outline
          rw [e, Option.bind_some, if_neg (by rw [nI_eq0 (by omega)]; exact q0), eu, Option.bind_some, if_pos c3]
        case rest => exact ⟨d1.trans u1.symm, h0⟩
      · by_cases c4 : 0 ≤ a3.toInt ∧ a3.toInt ≤ (len : Int) - 1
        · rw [decide_eq_true c4, ← u1] at w9
          obtain ⟨i, hi, rfl⟩ : ∃ i : Nat, i < len ∧ a3 = nI i := ⟨a3.toInt.toNat, by omega, tI_nI (by omega)⟩
          refine ⟨?r8d, ?r9d, ?e8d, ?e9d, ?restd⟩
          case e8d =>
            unfold mX8_outline
            rw [er, Option.bind_some, if_neg (by rw [k0T]; exact id), p3, rdI_n (by omega) (by omega), Option.bind_some, (gr.2.1 p p1 p2).1, ed, Option.bind_some, if_neg c3, if_neg (by rw [nI_lt0 (by omega)]; exact id), if_neg (by rw [d1, nI_leE (by omega) (by omega)]; omega), rdI_n (by omega) (by omega), Option.bind_some]
          case e9d =>
            unfold mX9_outline
            rw [e, Option.bind_some, if_neg (by rw [nI_eq0 (by omega)]; exact q0), eu, Option.bind_some, if_neg c3, w9, Option.bind_some, if_neg (by rw [k0T]; exact id), rdI_n (by omega) (by omega), Option.bind_some]
          case restd => exact ⟨(d2 i hi).trans (u2 i hi).symm, h0⟩
        · rw [decide_eq_false c4, ← u1] at w9
          have e8 : mX8_outline F (nI z) a2 a3 (ci 4) (ci 8) (ci 9) (ci 11) (ca 13) (ca 19) (ca 25) (ca 26) (ca 27) (ca 28) (ca 38) (ca 39) (ca 40) (ca 41) (ca 42) = some ((-1 : Int32), d.1, r.1, d.2, r.2.1, r.2.2.1, r.2.2.2.1, r.2.2.2.2.1, r.2.2.2.2.2) := by
            unfold mX8_outline
            rw [er, Option.bind_some, if_neg (by rw [k0T]; exact id), p3, rdI_n (by omega) (by omega), Option.bind_some, (gr.2.1 p p1 p2).1, ed, Option.bind_some, if_neg c3]
            by_cases c5 : a3 < 0
            · rw [if_pos c5]
            · rw [if_neg c5, if_pos]
              rw [tI_lt, i_0] at c5
              rw [d1, tI_le, tI_n (by omega)]
              omega
          refine ⟨_, ?r9f, e8, ?e9f, ?restf⟩
          case e9f =>
            unfold mX9_outline
            rw [e, Option.bind_some, if_neg (by rw [nI_eq0 (by omega)]; exact q0), eu, Option.bind_some, if_neg c3, w9, Option.bind_some, if_pos (by rw [k0F]; trivial)]
          case restf => exact ⟨rfl, h0⟩
    · rw [decide_eq_false (by omega)] at er
      rw [p2] at e
      refine ⟨?r8b, ?r9b, ?e8b, ?e9b, ?restb⟩
      case e8b =>
        unfold mX8_outline
        rw [er, Option.bind_some, if_pos (by rw [k0F]; trivial)]
      case e9b =>
        unfold mX9_outline
        rw [e, Option.bind_some, if_pos (show nI 0 = 0 from rfl)]
      case restb => exact ⟨rfl, h0⟩
  · refine ⟨?r8c, ?r9c, ?e8c, ?e9c, ?restc⟩
    case e8c =>
      unfold mX8_outline mX8_cutsGroup
      rw [isZoom8, decide_eq_false hz, Option.bind_some, if_pos (by rw [k0F]; trivial), Option.bind_some, if_pos rfl]
    case e9c =>
      unfold mX9_outline mX9_groupSet
      rw [isZoom9, decide_eq_false hz, Option.bind_some, if_pos (by rw [k0F]; trivial), Option.bind_some, if_pos rfl]
    case restc => exact ⟨rfl, h0⟩
/-- sums of whole numbers below and above 0 -/
def smI (f : Nat → Int) : Nat → Int
  | 0 => 0
  | n + 1 => smI f n + f n
def crC (X Y : Nat → Nat) (a b : Nat) : Int := cI X a * cI Y b - cI X b * cI Y a
theorem trn_cr (X Y : Nat → Nat) (o a b : Nat) : trn (cI X) (cI Y) o a b = crC X Y a b + crC X Y o a - crC X Y o b := by
  unfold trn crs crC
  simp only [Int.sub_mul, Int.mul_sub]
  omega
theorem shoe (X Y : Nat → Nat) (C : Nat → Nat) : ∀ m, smI (fun i => trn (cI X) (cI Y) (C 0) (C (i + 1)) (C (i + 2))) m = smI (fun i => crC X Y (C i) (C (i + 1))) (m + 1) - crC X Y (C 0) (C (m + 1))
  | 0 => by
    show (0 : Int) = 0 + crC X Y (C 0) (C 1) - crC X Y (C 0) (C 1)
    omega
  | m + 1 => by
    have ih := shoe X Y C m
    show smI (fun i => trn (cI X) (cI Y) (C 0) (C (i + 1)) (C (i + 2))) m + trn (cI X) (cI Y) (C 0) (C (m + 1)) (C (m + 2)) = smI (fun i => crC X Y (C i) (C (i + 1))) (m + 1) + crC X Y (C (m + 1)) (C (m + 2)) - crC X Y (C 0) (C (m + 2))
    rw [ih, trn_cr]
    omega
theorem shoe_all {X Y : Nat → Nat} {C : Nat → Nat} {len : Nat} (h1 : 1 ≤ len) (h : C len = C 0) : smI (fun i => trn (cI X) (cI Y) (C 0) (C (i + 1)) (C (i + 2))) (len - 2) = smI (fun i => crC X Y (C i) (C (i + 1))) len := by
  have anti : ∀ a b, crC X Y a b = - crC X Y b a := fun a b => by unfold crC; omega
  by_cases c : len = 1
  · subst c
    show (0 : Int) = 0 + crC X Y (C 0) (C 1)
    rw [h]
    have := anti (C 0) (C 0)
    omega
  · obtain ⟨m, rfl⟩ : ∃ m, len = m + 2 := ⟨len - 2, by omega⟩
    rw [Nat.add_sub_cancel, shoe]
    show _ = smI (fun i => crC X Y (C i) (C (i + 1))) (m + 1) + crC X Y (C (m + 1)) (C (m + 1 + 1))
    have := anti (C 0) (C (m + 1))
    rw [show m + 1 + 1 = m + 2 by omega, h]
    omega
theorem area3 {F N len : Nat} {X Y : Nat → Nat} {C : Nat → Nat} {row xs ys : Nat → Int32} (hF : 1000 ≤ F) (hN : N ≤ 24) (hP : PT N X Y xs ys) (h1 : 1 ≤ len) (hl : len ≤ 24) (hC : ∀ j, j < len → C j < N) (hr : ∀ j, j < len → row j = nI (C j)) (hc : C len = C 0) :
    mX3_twiceArea F (nI len) row xs ys = some (Int32.ofInt (smI (fun i => crC X Y (C i) (C (i + 1))) len)) := by
  unfold mX3_twiceArea
  refine lp (fun k => (Int32.ofInt (smI (fun i => crC X Y (C i) (C (i + 1))) k), nI k)) 0 len _ (by omega) rfl (fun k _ hk => ?_) ?_ (by omega)
  · have a := hC k hk
    have ⟨x1, y1⟩ := hP _ a
    have b : C (k + 1) < N := by
      by_cases d : k + 1 < len
      · exact hC (k + 1) d
      · rw [show k + 1 = len by omega, hc]
        exact hC 0 (by omega)
    have ⟨x2, y2⟩ := hP _ b
    have e : smI (fun i => crC X Y (C i) (C (i + 1))) (k + 1) = smI (fun i => crC X Y (C i) (C (i + 1))) k + ((X (C k) : Int) * (Y (C (k + 1)) : Int) - (X (C (k + 1)) : Int) * (Y (C k) : Int)) := rfl
    have j41 : ∀ y0, rdI 49 row y0 = some (nI (C (k + 1))) → mX3_twiceArea_j41 F row xs ys (Int32.ofInt (smI (fun i => crC X Y (C i) (C (i + 1))) k)) (nI k) (nI (C k)) y0 = some (.inl (Int32.ofInt (smI (fun i => crC X Y (C i) (C (i + 1))) (k + 1)), nI (k + 1))) := fun y0 hy => by
      unfold mX3_twiceArea_j41
      rw [hy, Option.bind_some, rdI_n (by omega) (by omega), Option.bind_some, rdI_n (by omega) (by omega), Option.bind_some, rdI_n (by omega) (by omega), Option.bind_some, rdI_n (by omega) (by omega), Option.bind_some, Option.bind_some, e, Int32.ofInt_add, Int32.ofInt_sub, Int32.ofInt_mul, Int32.ofInt_mul,
        ← nI_ofI, ← nI_ofI, ← nI_ofI, ← nI_ofI, x1, y1, x2, y2, nI_1]
    show mX3_twiceArea_b4 F (nI len) row xs ys (Int32.ofInt (smI (fun i => crC X Y (C i) (C (i + 1))) k)) (nI k) = _
    unfold mX3_twiceArea_b4
    rw [if_neg (show ¬ nI len ≤ nI k by rw [nI_leE (by omega) (by omega)]; omega), rdI_n (by omega) (by omega), Option.bind_some, hr k hk, nI_1]
    by_cases d : k + 1 < len
    · rw [if_neg (show ¬ nI len ≤ nI (k + 1) by rw [nI_leE (by omega) (by omega)]; omega)]
      exact j41 _ (by rw [rdI_n (by omega) (by omega), hr (k + 1) d])
    · rw [if_pos (show nI len ≤ nI (k + 1) by rw [nI_leE (by omega) (by omega)]; omega)]
      exact j41 _ (by rw [show (0 : Int32) = nI 0 from rfl, rdI_n (by omega) (by omega), hr 0 (by omega), show k + 1 = len by omega, hc])
  · show mX3_twiceArea_b4 F (nI len) row xs ys (Int32.ofInt (smI (fun i => crC X Y (C i) (C (i + 1))) len)) (nI len) = _
    unfold mX3_twiceArea_b4
    rw [if_pos (show nI len ≤ nI len by rw [nI_leE (by omega) (by omega)]; omega)]
theorem area9 {F N len : Nat} {X Y : Nat → Nat} {C : Nat → Nat} {row xs ys part : Nat → Int32} (hF : 1000 ≤ F) (hN : N ≤ 24) (hP : PT N X Y xs ys) (h1 : 1 ≤ len) (hl : len ≤ 24) (hC : ∀ j, j < len → C j < N) (hr : ∀ j, j < len → row j = nI (C j)) :
    loop (fun s29 : Int32 × Int32 => mX9_area_b29 F xs ys part (nI len) row s29.1 s29.2) F ((0 : Int32), (2 : Int32)) = some (Int32.ofInt (smI (fun i => trn (cI X) (cI Y) (C 0) (C (i + 1)) (C (i + 2))) (len - 2)), nI len, 0, row, part) := by
  refine lp (fun k => (Int32.ofInt (smI (fun i => trn (cI X) (cI Y) (C 0) (C (i + 1)) (C (i + 2))) k), nI (k + 2))) 0 (len - 2) _ (by omega) rfl (fun k _ hk => ?_) ?_ (by omega)
  · have c0 := hC 0 (by omega)
    have c1 := hC (k + 1) (by omega)
    have c2 := hC (k + 2) (by omega)
    have e : smI (fun i => trn (cI X) (cI Y) (C 0) (C (i + 1)) (C (i + 2))) (k + 1) = smI (fun i => trn (cI X) (cI Y) (C 0) (C (i + 1)) (C (i + 2))) k + trn (cI X) (cI Y) (C 0) (C (k + 1)) (C (k + 2)) := rfl
    show mX9_area_b29 F xs ys part (nI len) row (Int32.ofInt (smI (fun i => trn (cI X) (cI Y) (C 0) (C (i + 1)) (C (i + 2))) k)) (nI (k + 2)) = _
    unfold mX9_area_b29
    rw [if_neg (show ¬ nI len ≤ nI (k + 2) by rw [nI_leE (by omega) (by omega)]; omega), show (0 : Int32) = nI 0 from rfl, rdI_n (by omega) (by omega), Option.bind_some, hr 0 (by omega), nI_s1 (by omega), show k + 2 - 1 = k + 1 by omega, rdI_n (by omega) (by omega), Option.bind_some, hr (k + 1) (by omega),
      rdI_n (by omega) (by omega), Option.bind_some, hr (k + 2) (by omega), turn9 hN hP c0 c1 c2, Option.bind_some, Option.bind_some, e, Int32.ofInt_add, nI_1]
  · show mX9_area_b29 F xs ys part (nI len) row (Int32.ofInt (smI (fun i => trn (cI X) (cI Y) (C 0) (C (i + 1)) (C (i + 2))) (len - 2))) (nI (len - 2 + 2)) = _
    unfold mX9_area_b29
    rw [if_pos (show nI len ≤ nI (len - 2 + 2) by rw [nI_leE (by omega) (by omega)]; omega)]
theorem call_area {F : Nat} (hF : 5000 ≤ F) : Call_area F INV := by
  intro ca cl ci fr a1 a2 h
  have h0 := h
  obtain ⟨N, M, S, X, Y, W, U, V, Z, ⟨g1, g2, g3, g4, g5, g6⟩, ⟨i8, i9, i15, i2, i3, i18, i19⟩, ⟨r1, r2, r3⟩, h4, h5, h6, h7⟩ := h
  have hN := g1.1
  rcases zm_or a1 with ⟨z, hz, rfl, z1, z2⟩ | hz
  · have hS := szB_part (X := X) (Y := Y) (z := z) hN
    obtain ⟨r, er, gr⟩ := cuts8 (F := F) (by omega) g1 r1 h4 hz i8 i9 a2 (ci 11) (ca 38) (ca 39) (ca 40) (ca 41) (ca 42)
    obtain ⟨t, e, gt⟩ := groupSet9 (F := F) (by omega) hN g1.2.1 hz h6 (ca 68) a2
    rw [← i15] at e
    rcases gs_or hN hS a2 with ⟨p, p1, p2, p3, p4, p5, p6⟩ | ⟨p1, p2⟩
    · have ⟨q24, q0⟩ := part_24 hN hS p1
      have ⟨qN, qp⟩ := crn_or hS p1
      have ixl := ix_lt (s := szB X Y N z) (p := p)
      rw [decide_eq_true ⟨p5, p6⟩] at er
      rw [p4] at e
      obtain ⟨d, C, len, ed, H, d1, d2⟩ := draw3 (F := F) (by omega) g1 (rows_pt r1) qN p1 qp (ci 4) (ca 13)
      obtain ⟨u, eu, u1, u2⟩ := lays9o (F := F) (by omega) g1 (rows_pt r2) qN q0 H (ci 21) (ca 62)
      have l24 := H.2.1
      have hC : ∀ j, j < len → C j < N := fun j hj => (H.2.2.1 j hj).1
      have m8 := area3 (F := F) (row := d.2) (by omega) hN (rows_pt r1) H.1 H.2.1 hC d2 H.2.2.2.2.1
      have m9 := area9 (F := F) (row := u.2) (part := t) (by omega) hN (rows_pt r2) H.1 H.2.1 hC u2
      rw [shoe_all H.1 H.2.2.2.2.1, ← u1] at m9
      rw [← d1] at m8
      rw [← i9] at ed
      rw [← i15] at eu
      refine ⟨?r8, ?r9, ?e8, ?e9, ?rest⟩
      case e8 =>
        unfold mX8_area
        rw [er, Option.bind_some, if_neg (by rw [k0T]; exact id), p3, rdI_n (by omega) (by omega), Option.bind_some, (gr.2.1 p p1 p2).1, ed, Option.bind_some, m8, Option.bind_some]
      case e9 =>
        unfold mX9_area
        rw [e, Option.bind_some, if_neg (by rw [nI_eq0 (by omega)]; exact q0), eu, Option.bind_some]
        exact m9
      case rest => exact ⟨rfl, h0⟩
    · rw [decide_eq_false (by omega)] at er
      rw [p2] at e
      refine ⟨?r8b, ?r9b, ?e8b, ?e9b, ?restb⟩
      case e8b =>
        unfold mX8_area
        rw [er, Option.bind_some, if_pos (by rw [k0F]; trivial)]
      case e9b =>
        unfold mX9_area
        rw [e, Option.bind_some, if_pos (show nI 0 = 0 from rfl)]
      case restb => exact ⟨rfl, h0⟩
  · refine ⟨?r8c, ?r9c, ?e8c, ?e9c, ?restc⟩
    case e8c =>
      unfold mX8_area mX8_cutsGroup
      rw [isZoom8, decide_eq_false hz, Option.bind_some, if_pos (by rw [k0F]; trivial), Option.bind_some, if_pos rfl]
    case e9c =>
      unfold mX9_area mX9_groupSet
      rw [isZoom9, decide_eq_false hz, Option.bind_some, if_pos (by rw [k0F]; trivial), Option.bind_some, if_pos rfl]
    case restc => exact ⟨rfl, h0⟩
