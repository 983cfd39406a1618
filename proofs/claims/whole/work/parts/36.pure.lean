/-! ===== PURE 27: calls window, top, tile ===== -/
theorem cnt_mk {P : Nat → Bool} {C : Nat} : ∀ n, C ≤ n → cntB (mkB P C).testBit n = cntB P C
  | 0, h => by rw [show C = 0 by omega]; rfl
  | n + 1, h => by
    rcases Nat.eq_or_lt_of_le h with e | e
    · rw [e]
      exact cntB_congr (fun i hi => by rw [mkB_bit, decide_eq_true hi, Bool.true_and])
    · have ih := cnt_mk (P := P) (C := C) n (by omega)
      show cntB (mkB P C).testBit n + (if (mkB P C).testBit n = true then 1 else 0) = _
      rw [ih, mkB_bit, decide_eq_false (show ¬ n < C by omega), Bool.false_and]
      rfl
def cQ (X Y W : Nat → Nat) (N : Nat) (s : Nat → Nat) (x0 x1 y0 y1 : Int32) (p : Nat) : Bool :=
  decide (x0 ≤ nI (ctB X W (s p) N)) && decide (nI (ctB X W (s p) N) ≤ x1) && decide (y0 ≤ nI (ctB Y W (s p) N)) && decide (nI (ctB Y W (s p) N) ≤ y1)
theorem centres5 {F N : Nat} {s X Y W : Nat → Nat} {cnt : Int32} {groupAt sets weights xs ys : Nat → Int32} (hF : 1000 ≤ F) (hN : N ≤ 24) (h : SCALE N s X Y W cnt groupAt sets weights xs ys) (x0 x1 y0 y1 : Int32) :
    mX5_centresIn F x0 x1 y0 y1 cnt xs ys = some (nI (mkB (inW x0 x1 y0 y1 xs ys) (ixB s N))) ∧ ∀ p, p < N → hdB s p = true → inW x0 x1 y0 y1 xs ys (ixB s p) = cQ X Y W N s x0 x1 y0 y1 p := by
  have hC : ixB s N ≤ N := ix_lt
  refine ⟨?_, fun p hp hd => ?_⟩
  · unfold mX5_centresIn
    rw [show cnt = nI (ixB s N) from h.1]
    refine lp (fun k => (nI (mkB (inW x0 x1 y0 y1 xs ys) k), nI k)) 0 (ixB s N) _ (by omega) rfl (fun k _ hk => ?_) ?_ (by omega)
    · have hs := setbit (mk_lt31 (inW x0 x1 y0 y1 xs ys) (k := k) (by omega)) (k := k) (by omega)
      have hle : ¬ nI (ixB s N) ≤ nI k := by rw [nI_leE (by omega) (by omega)]; omega
      unfold mX5_centresIn_b6
      simp only []
      rw [if_neg hle, rdI_n (by omega) (by omega), Option.bind_some, rdI_n (by omega) (by omega), Option.bind_some]
      simp only [mkB, nI_1]
      by_cases h1 : xs k < x0
      · have g1 : inW x0 x1 y0 y1 xs ys k = false := by unfold inW; rw [decide_eq_false (Int32.not_le.mpr h1)]; rfl
        rw [if_pos h1, g1, if_neg (by decide)]
      · rw [if_neg h1, Option.bind_some]
        by_cases h2 : x1 < xs k
        · have g1 : inW x0 x1 y0 y1 xs ys k = false := by unfold inW; rw [decide_eq_false (Int32.not_le.mpr h2), Bool.and_false]; rfl
          rw [if_pos h2, g1, if_neg (by decide)]
        · rw [if_neg h2]
          by_cases h3 : ys k < y0
          · have g1 : inW x0 x1 y0 y1 xs ys k = false := by unfold inW; rw [decide_eq_false (Int32.not_le.mpr h3), Bool.and_false]; rfl
            rw [if_pos h3, g1, if_neg (by decide)]
          · rw [if_neg h3, Option.bind_some]
            by_cases h4 : y1 < ys k
            · have g1 : inW x0 x1 y0 y1 xs ys k = false := by unfold inW; rw [decide_eq_false (Int32.not_le.mpr h4), Bool.and_false]
              rw [if_pos h4, g1, if_neg (by decide)]
            · have g1 : inW x0 x1 y0 y1 xs ys k = true := by unfold inW; rw [decide_eq_true (Int32.not_lt.mp h1), decide_eq_true (Int32.not_lt.mp h2), decide_eq_true (Int32.not_lt.mp h3), decide_eq_true (Int32.not_lt.mp h4)]; rfl
              rw [if_neg h4, hs, Option.bind_some, g1, if_pos rfl]
    · unfold mX5_centresIn_b6
      simp only []
      rw [if_pos (by rw [nI_leE (by omega) (by omega)]; omega)]
  · have a := h.2.1 p hp hd
    unfold inW cQ
    rw [a.2.2.1, a.2.2.2]
theorem isCentred9 {F N p : Nat} {s X Y W : Nat → Nat} {w x y : Nat → Int32} (hF : 1000 ≤ F) (gd : GOOD N X Y W) (hP : ROWS N X Y W w x y) (hS : PART N s) (hp : p < N) (x0 x1 y0 y1 : Int32) :
    mX9_isCentred F (nI (s p)) x0 x1 y0 y1 (nI N) w x y = some (bI (cQ X Y W N s x0 x1 y0 y1 p)) := by
  have hN := gd.1
  have ⟨q24, _⟩ := part_24 hN hS hp
  have c := centre9 (F := F) hF gd hP (show s p < 2 ^ 31 by omega) (wtB_pos (hS p hp).1 (gd.2.2.1 p hp).1 N hp)
  unfold mX9_isCentred
  rw [c.1, Option.bind_some, c.2, Option.bind_some, isWithin9]
  rfl
theorem centred9 {F N : Nat} {s X Y W : Nat → Nat} {part w x y : Nat → Int32} (hF : 1000 ≤ F) (gd : GOOD N X Y W) (hP : ROWS N X Y W w x y) (hS : PART N s) (h : ∀ p, p < N → part p = nI (s p)) (x0 x1 y0 y1 : Int32) :
    mX9_centredIn F x0 x1 y0 y1 0 (nI N) part w x y = some (nI (cntB (fun p => hdB s p && cQ X Y W N s x0 x1 y0 y1 p) N)) ∧
    mX9_centredIn F x0 x1 y0 y1 1 (nI N) part w x y = some (nI (sumB (fun p => if hdB s p = true then (if cQ X Y W N s x0 x1 y0 y1 p = true then wtB W (s p) N else 0) else 0) N)) := by
  have hN := gd.1
  constructor
  · unfold mX9_centredIn
    refine lp (fun k => (nI (cntB (fun p => hdB s p && cQ X Y W N s x0 x1 y0 y1 p) k), nI k)) 0 N _ (by omega) rfl (fun k _ hk => ?_) ?_ (by omega)
    · have f := isFirst9 (F := F) hF hN hS h hk
      have ic := isCentred9 (F := F) hF gd hP hS hk x0 x1 y0 y1
      unfold mX9_centredIn_b6
      simp only []
      rw [if_neg (by rw [nI_leE (by omega) (by omega)]; omega), f, Option.bind_some]
      cases e : hdB s k with
      | false => rw [if_pos (by rw [k0F]; trivial), nI_1]; simp only [cntB, e, Bool.false_and]; rfl
      | true =>
        rw [if_neg (by rw [k0T]; exact id), rdI_n (by omega) (by omega), Option.bind_some, h k hk, ic, Option.bind_some]
        cases e2 : cQ X Y W N s x0 x1 y0 y1 k with
        | false => rw [if_pos (by rw [k0F]; trivial), nI_1]; simp only [cntB, e, e2, Bool.and_false]; rfl
        | true => rw [if_neg (by rw [k0T]; exact id), if_pos trivial, Option.bind_some, nI_1, nI_1]; simp only [cntB, e, e2]; rfl
    · unfold mX9_centredIn_b6
      simp only []
      rw [if_pos (by rw [nI_leE (by omega) (by omega)]; omega)]
  · unfold mX9_centredIn
    refine lp (fun k => (nI (sumB (fun p => if hdB s p = true then (if cQ X Y W N s x0 x1 y0 y1 p = true then wtB W (s p) N else 0) else 0) k), nI k)) 0 N _ (by omega) rfl (fun k _ hk => ?_) ?_ (by omega)
    · have f := isFirst9 (F := F) hF hN hS h hk
      have ic := isCentred9 (F := F) hF gd hP hS hk x0 x1 y0 y1
      have ⟨q24, _⟩ := part_24 hN hS hk
      unfold mX9_centredIn_b6
      simp only []
      rw [if_neg (by rw [nI_leE (by omega) (by omega)]; omega), f, Option.bind_some]
      cases e : hdB s k with
      | false => rw [if_pos (by rw [k0F]; trivial), nI_1]; simp only [sumB, e]; rfl
      | true =>
        rw [if_neg (by rw [k0T]; exact id), rdI_n (by omega) (by omega), Option.bind_some, h k hk, ic, Option.bind_some]
        cases e2 : cQ X Y W N s x0 x1 y0 y1 k with
        | false => rw [if_pos (by rw [k0F]; trivial), nI_1]; simp only [sumB, e, e2]; rfl
        | true => rw [if_neg (by rw [k0T]; exact id), if_neg (by decide +kernel), Option.bind_some, weight9 hF hN (by omega) (rows_w hP), Option.bind_some, Option.bind_some, nI_add, nI_1]; simp only [sumB, e, e2]; rfl
    · unfold mX9_centredIn_b6
      simp only []
      rw [if_pos (by rw [nI_leE (by omega) (by omega)]; omega)]
/-- the weights of groups, as whole numbers -/
def wG (weights : Nat → Int32) (g : Nat) : Nat := (weights g).toInt.toNat
theorem wG_of {N : Nat} {s X Y W : Nat → Nat} {cnt : Int32} {groupAt sets weights xs ys : Nat → Int32} (hN : N ≤ 24) (hW : ∀ i, i < N → W i ≤ 99) (h : SCALE N s X Y W cnt groupAt sets weights xs ys) :
    (∀ p, p < N → hdB s p = true → wG weights (ixB s p) = wtB W (s p) N) ∧ ∀ g, g < ixB s N → weights g = nI (wG weights g) ∧ wG weights g ≤ 2376 := by
  have a : ∀ p, p < N → hdB s p = true → wG weights (ixB s p) = wtB W (s p) N := fun p hp hd => by
    have b := (h.2.1 p hp hd).2.1
    have l := wtB_le (m := s p) hN hW
    unfold wG
    rw [b, tI_n (by omega)]
    rfl
  refine ⟨a, fun g hg => ?_⟩
  obtain ⟨p, p1, p2, p3⟩ := hd_ex (s := s) (N := N) hg
  have b := (h.2.1 p p1 p2).2.1
  have c := a p p1 p2
  have l := wtB_le (m := s p) hN hW
  rw [← p3, b, c]
  exact ⟨rfl, l⟩
theorem weight5 {F N : Nat} {s X Y W : Nat → Nat} {cnt : Int32} {groupAt sets weights xs ys : Nat → Int32} {P Q : Nat → Bool} (hF : 1000 ≤ F) (hN : N ≤ 24) (hW : ∀ i, i < N → W i ≤ 99) (h : SCALE N s X Y W cnt groupAt sets weights xs ys) (hP : ∀ p, p < N → hdB s p = true → P (ixB s p) = Q p) :
    mX5_weightOf F (nI (mkB P (ixB s N))) cnt weights = some (nI (sumB (fun p => if hdB s p = true then (if Q p = true then wtB W (s p) N else 0) else 0) N)) := by
  have hC : ixB s N ≤ N := ix_lt
  have ⟨a, b⟩ := wG_of hN hW h
  have en := en_sum (s := s) (f := fun g => if P g = true then wG weights g else 0) (g := fun p => if Q p = true then wtB W (s p) N else 0) (N := N) (fun p hp hd => by rw [hP p hp hd, a p hp hd]) N (Nat.le_refl _)
  rw [← en]
  unfold mX5_weightOf
  rw [show cnt = nI (ixB s N) from h.1]
  refine lp (fun k => (nI (sumB (fun g => if P g = true then wG weights g else 0) k), nI k)) 0 (ixB s N) _ (by omega) rfl (fun k _ hk => ?_) ?_ (by omega)
  · unfold mX5_weightOf_b4
    simp only []
    rw [if_neg (by rw [nI_leE (by omega) (by omega)]; omega), has6b F (mk_lt31 _ (by omega)) (by omega), Option.bind_some, mkB_bit, decide_eq_true hk, Bool.true_and]
    cases e : P k with
    | false => rw [if_pos (by rw [k0F]; trivial), nI_1]; simp only [sumB, e]; rfl
    | true => rw [if_neg (by rw [k0T]; exact id), rdI_n (by omega) (by omega), Option.bind_some, Option.bind_some, (b k hk).1, nI_add, nI_1]; simp only [sumB, e]; rfl
  · unfold mX5_weightOf_b4
    simp only []
    rw [if_pos (by rw [nI_leE (by omega) (by omega)]; omega)]
theorem bits_en {N : Nat} {s : Nat → Nat} {P Q : Nat → Bool} (hN : N ≤ 24) (hP : ∀ p, p < N → hdB s p = true → P (ixB s p) = Q p) : bitCnt (nI (mkB P (ixB s N))) = nI (cntB (fun p => hdB s p && Q p) N) := by
  have hC : ixB s N ≤ N := ix_lt
  rw [bitCnt_n (Nat.lt_of_lt_of_le (mkB_lt P _) (Nat.pow_le_pow_right (by omega) (by omega))), cnt_mk 24 (by omega), en_cnt hP N (Nat.le_refl _)]
theorem inW_congr {N : Nat} {xs ys xs' ys' : Nat → Int32} (h : ∀ i, i < N → xs i = xs' i ∧ ys i = ys' i) (x0 x1 y0 y1 : Int32) : mkB (inW x0 x1 y0 y1 xs ys) N = mkB (inW x0 x1 y0 y1 xs' ys') N := mkB_congr (fun k hk => by unfold inW; rw [(h k hk).1, (h k hk).2])
theorem mk24 {P : Nat → Bool} {N : Nat} (hN : N ≤ 24) : mkB P N < 2 ^ 24 := Nat.lt_of_lt_of_le (mkB_lt P _) (Nat.pow_le_pow_right (by omega) hN)
theorem call_window {F : Nat} (hF : 5000 ≤ F) : Call_window F INV := by
  intro ca cl ci fr a1 a2 a3 a4 a5 a6 h
  have h0 := h
  obtain ⟨N, M, S, X, Y, W, U, V, Z, ⟨g1, g2, g3, g4, g5, g6⟩, ⟨i8, i9, i15, i2, i3, i18, i19⟩, ⟨r1, r2, r3⟩, h4, h5, h6, h7⟩ := h
  have hN := g1.1
  rcases zm_or a1 with ⟨z, hz, rfl, z1, z2⟩ | hz
  · have hS := szB_part (X := X) (Y := Y) (z := z) hN
    have zd := decide_eq_true (p := 0 ≤ (nI z).toInt ∧ (nI z).toInt ≤ 10) ⟨z1, z2⟩
    have z8 := isZoom8 F (nI z)
    have z9 := isZoom9 F (nI z)
    rw [zd] at z8 z9
    obtain ⟨r, er, gr⟩ := cutZ (F := F) (by omega) g1 r1 h4 hz i8 i9 (ci 11) (ca 38) (ca 39) (ca 40) (ca 41) (ca 42)
    obtain ⟨t, et, gt⟩ := laysZoom9 (F := F) (by omega) hN g1.2.1 hz h6 (ca 68)
    have ⟨c5, c5b⟩ := centres5 (F := F) (by omega) hN gr a2 a3 a4 a5
    have w4 := within4 (F := F) (by omega) hN a2 a3 a4 a5 (ca 27) (ca 28)
    have w9 := within9 (F := F) (by omega) hN a2 a3 a4 a5 (ca 81) (ca 82)
    rw [← inW_congr (rows_eq r1 r2)] at w9
    have ⟨n0, n1⟩ := centred9 (F := F) (by omega) g1 r2 hS gt a2 a3 a4 a5
    have b5 := bits_en hN c5b
    have g5' := weight5 (F := F) (by omega) hN (fun i hi => (g1.2.2.1 i hi).2) gr c5b
    have m24 := mk24 (P := inW a2 a3 a4 a5 (ca 27) (ca 28)) hN
    have b4 := bitCnt_n m24
    have b9 := bits9 (F := F) (by omega) (show mkB (inW a2 a3 a4 a5 (ca 27) (ca 28)) N < 2 ^ 31 by omega)
    have wt4 := weight4 (F := F) (W := W) (by omega) hN (show mkB (inW a2 a3 a4 a5 (ca 27) (ca 28)) N < 2 ^ 31 by omega) (rows_w r1)
    have wt9 := weight9 (F := F) (W := W) (by omega) hN (show mkB (inW a2 a3 a4 a5 (ca 27) (ca 28)) N < 2 ^ 31 by omega) (rows_w r2)
    have i9' := isInI9 F a6 0 3
    rw [l_0, l_3] at i9'
    have pre8 : ∀ v, (if a6 = (0 : Int32) then ((some (bitCnt (nI (mkB (inW a2 a3 a4 a5 r.2.2.2.2.1 r.2.2.2.2.2) (ixB (szB X Y N z) N))))).bind fun v7 => some (v7, r.1, r.2.1, r.2.2.1, r.2.2.2.1, r.2.2.2.2.1, r.2.2.2.2.2)) else if a6 = (1 : Int32) then ((mX5_weightOf F (nI (mkB (inW a2 a3 a4 a5 r.2.2.2.2.1 r.2.2.2.2.2) (ixB (szB X Y N z) N))) r.1 r.2.2.2.1).bind fun r9 => some (r9, r.1, r.2.1, r.2.2.1, r.2.2.2.1, r.2.2.2.2.1, r.2.2.2.2.2)) else if a6 = (2 : Int32) then ((some (bitCnt (nI (mkB (inW a2 a3 a4 a5 (ca 27) (ca 28)) N)))).bind fun v11 => some (v11, r.1, r.2.1, r.2.2.1, r.2.2.2.1, r.2.2.2.2.1, r.2.2.2.2.2)) else if a6 = (3 : Int32) then ((mX4_weightOf F (nI (mkB (inW a2 a3 a4 a5 (ca 27) (ca 28)) N)) (nI N) (ca 26)).bind fun r13 => some (r13, r.1, r.2.1, r.2.2.1, r.2.2.2.1, r.2.2.2.2.1, r.2.2.2.2.2)) else some ((-1 : Int32), r.1, r.2.1, r.2.2.1, r.2.2.2.1, r.2.2.2.2.1, r.2.2.2.2.2)) = some (v, r) →
        mX8_window F (nI z) a2 a3 a4 a5 a6 (ci 8) (ci 9) (ci 11) (ca 19) (ca 25) (ca 26) (ca 27) (ca 28) (ca 38) (ca 39) (ca 40) (ca 41) (ca 42) = some (v, r) := fun v hv => by
      unfold mX8_window
      rw [z8, Option.bind_some, if_neg (by rw [k0T]; exact id), er, Option.bind_some, c5, Option.bind_some, i9, w4, Option.bind_some]
      exact hv
    have key : ∀ (v : Int32) (t : Nat → Int32), mX8_window F (nI z) a2 a3 a4 a5 a6 (ci 8) (ci 9) (ci 11) (ca 19) (ca 25) (ca 26) (ca 27) (ca 28) (ca 38) (ca 39) (ca 40) (ca 41) (ca 42) = some (v, r) →
        mX9_window F (nI z) a2 a3 a4 a5 a6 (ci 14) (ci 15) (ca 64) (ca 68) (ca 73) (ca 80) (ca 81) (ca 82) = some (v, 0, t) → _ := fun v t e8 e9 => (⟨_, _, e8, e9, rfl, h0⟩ : ∃ r8 r9, mX8_window F (nI z) a2 a3 a4 a5 a6 (ci 8) (ci 9) (ci 11) (ca 19) (ca 25) (ca 26) (ca 27) (ca 28) (ca 38) (ca 39) (ca 40) (ca 41) (ca 42) = some r8 ∧ mX9_window F (nI z) a2 a3 a4 a5 a6 (ci 14) (ci 15) (ca 64) (ca 68) (ca 73) (ca 80) (ca 81) (ca 82) = some r9 ∧ r8.1 = r9.1 ∧ INV (fun j => cond (Nat.beq j 38) ((r8.2.2.1)) (cond (Nat.beq j 39) ((r8.2.2.2.1)) (cond (Nat.beq j 40) ((r8.2.2.2.2.1)) (cond (Nat.beq j 41) ((r8.2.2.2.2.2.1)) (cond (Nat.beq j 42) ((r8.2.2.2.2.2.2)) (cond (Nat.beq j 68) ((r9.2.2)) (ca j))))))) cl (fun j => cond (Nat.beq j 11) ((r8.2.1)) (cond (Nat.beq j 14) ((r9.2.1)) (ci j))))
    have z2' : ¬ (2 : Int32) ≤ 0 := by decide +kernel
    have z21 : ¬ (2 : Int32) ≤ 1 := by decide +kernel
    have z22 : (2 : Int32) ≤ 2 := by decide +kernel
    have z23 : (2 : Int32) ≤ 3 := by decide +kernel
    have z32 : ¬ (3 : Int32) = 2 := by decide +kernel
    have i_3 : (3 : Int32).toInt = 3 := by decide +kernel
    have i_2 : (2 : Int32).toInt = 2 := by decide +kernel
    by_cases q0 : a6 = 0
    · subst q0
      refine key _ t (pre8 (nI (cntB (fun p => hdB (szB X Y N z) p && cQ X Y W N (szB X Y N z) a2 a3 a4 a5 p) N)) ?_) ?_
      · rw [if_pos rfl, b5]; rfl
      · unfold mX9_window
        rw [z9, Option.bind_some, if_neg (by rw [k0T]; exact id), i9', decide_eq_true (by rw [i_0]; omega), Option.bind_some, if_neg (by rw [k0T]; exact id), i15, et, Option.bind_some, if_neg z2', if_neg (by decide +kernel), n0, Option.bind_some]
    · by_cases q1 : a6 = 1
      · subst q1
        refine key _ t (pre8 (nI (sumB (fun p => if hdB (szB X Y N z) p = true then (if cQ X Y W N (szB X Y N z) a2 a3 a4 a5 p = true then wtB W (szB X Y N z p) N else 0) else 0) N)) ?_) ?_
        · rw [if_neg q0, if_pos rfl, g5', Option.bind_some]
        · unfold mX9_window
          rw [z9, Option.bind_some, if_neg (by rw [k0T]; exact id), i9', decide_eq_true (by rw [i_1]; omega), Option.bind_some, if_neg (by rw [k0T]; exact id), i15, et, Option.bind_some, if_neg z21, if_pos rfl, n1, Option.bind_some]
      · by_cases q2 : a6 = 2
        · subst q2
          refine key _ t (pre8 (nI (cntB (mkB (inW a2 a3 a4 a5 (ca 27) (ca 28)) N).testBit 24)) ?_) ?_
          · rw [if_neg q0, if_neg q1, if_pos rfl, b4]; rfl
          · unfold mX9_window
            rw [z9, Option.bind_some, if_neg (by rw [k0T]; exact id), i9', decide_eq_true (by rw [i_2]; omega), Option.bind_some, if_neg (by rw [k0T]; exact id), i15, et, Option.bind_some, if_pos z22, w9, Option.bind_some, if_pos rfl, b9, Option.bind_some]
        · by_cases q3 : a6 = 3
          · subst q3
            refine key _ t (pre8 (nI (wtB W (mkB (inW a2 a3 a4 a5 (ca 27) (ca 28)) N) N)) ?_) ?_
            · rw [if_neg q0, if_neg q1, if_neg q2, if_pos rfl, wt4, Option.bind_some]
            · unfold mX9_window
              rw [z9, Option.bind_some, if_neg (by rw [k0T]; exact id), i9', decide_eq_true (by rw [i_3]; omega), Option.bind_some, if_neg (by rw [k0T]; exact id), i15, et, Option.bind_some, if_pos z23, w9, Option.bind_some, if_neg z32, wt9, Option.bind_some]
          · refine key _ (ca 68) (pre8 (-1) ?_) ?_
            · rw [if_neg q0, if_neg q1, if_neg q2, if_neg q3]
            · have no : ¬ (0 ≤ a6.toInt ∧ a6.toInt ≤ 3) := by
                intro q
                have e0 : a6.toInt ≠ 0 := fun e => q0 (tI_ext (by rw [e, i_0]))
                have e1 : a6.toInt ≠ 1 := fun e => q1 (tI_ext (by rw [e, i_1]))
                have e2 : a6.toInt ≠ 2 := fun e => q2 (tI_ext (by rw [e, i_2]))
                have e3 : a6.toInt ≠ 3 := fun e => q3 (tI_ext (by rw [e, i_3]))
                omega
              unfold mX9_window
              rw [z9, Option.bind_some, if_neg (by rw [k0T]; exact id), i9', decide_eq_false no, Option.bind_some, if_pos (by rw [k0F]; trivial)]
  · refine ⟨?r8c, ?r9c, ?e8c, ?e9c, ?restc⟩
    case e8c =>
      unfold mX8_window
      rw [isZoom8, decide_eq_false hz, Option.bind_some, if_pos (by rw [k0F]; trivial)]
    case e9c =>
      unfold mX9_window
      rw [isZoom9, decide_eq_false hz, Option.bind_some, if_pos (by rw [k0F]; trivial)]
    case restc => exact ⟨rfl, h0⟩
