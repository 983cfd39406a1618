/-! ===== PURE 38: call stirred, the outer loops ===== -/
theorem nowAt9 {F N M q : Nat} {X Y W U V Z : Nat → Nat} {ws us vs : Nat → Int32} (hF : 1000 ≤ F) (gN : GOOD N X Y W) (gM : GOOD M U V Z) (hP : ROWS N X Y W ws us vs) (hq : q < M) :
    mX9_nowAt F (nI (pn U V q)) (nI N) us vs = some (oI (fstB (fun i => decide (plB X Y i = plB U V q)) N)) := by
  have ⟨b1, b2⟩ := gM.2.1 q hq
  have pl := pn_lt gM.2.1 hq
  have e1 : nI (pn U V q) - nI (pn U V q) / (1024 : Int32) * (1024 : Int32) = nI (U q) := (pk_rem (d := 1024) (by omega) (by omega) (by omega)).trans (congrArg nI (by unfold pn; omega))
  have e2 : nI (pn U V q) / (1024 : Int32) = nI (V q) := (pk_div (d := 1024) (by omega) (by omega) (by omega)).trans (congrArg nI (by unfold pn; omega))
  unfold mX9_nowAt
  rw [e1, e2, find9 (by omega) gN.1, Option.bind_some, find_pl gM gN hP hq]
theorem st_in9 {F N M p : Nat} {X Y W U V Z s t : Nat → Nat} {r4 r5 place ws us vs : Nat → Int32} {c0 : Nat} (hF : 1000 ≤ F) (gN : GOOD N X Y W) (gM : GOOD M U V Z) (hP : ROWS N X Y W ws us vs) (hS : PART N s) (hT : WPS M t r4) (hpl : ∀ p, p < M → place p = nI (pn U V p)) (hs : ∀ p, p < N → r5 p = nI (s p)) (hp : p < M) :
    loop (fun s49 : Int32 × Int32 => mX9_stirred_b49 F (nI N) place us vs r4 r5 (nI p) s49.1 s49.2) F (nI c0, (0 : Int32)) = some (nI (c0 + sumB (fun q => st9 (plB X Y) (plB U V) s t N p q) p)) := by
  have hN := gN.1
  have hM := gM.1
  obtain ⟨wp, hw1, hw2⟩ := hT
  refine lp (fun k => (nI (c0 + sumB (fun q => st9 (plB X Y) (plB U V) s t N p q) k), nI k)) 0 p _ (by omega) rfl (fun k _ hk => ?_) ?_ (by omega)
  · show mX9_stirred_b49 F (nI N) place us vs r4 r5 (nI p) (nI (c0 + sumB (fun q => st9 (plB X Y) (plB U V) s t N p q) k)) (nI k) = some (.inl (nI (c0 + (sumB (fun q => st9 (plB X Y) (plB U V) s t N p q) k + st9 (plB X Y) (plB U V) s t N p k)), nI (k + 1)))
    generalize sumB (fun q => st9 (plB X Y) (plB U V) s t N p q) k = c1
    have hk2 : k < M := by omega
    have n1 := nowAt9 hF gN gM hP hp
    have n2 := nowAt9 hF gN gM hP hk2
    have ⟨wa, wa2⟩ := hw1 p hp
    have ⟨wb, wb2⟩ := hw1 k hk2
    have hww := hw2 p k hp hk2
    unfold mX9_stirred_b49
    rw [if_neg (show ¬ nI p ≤ nI k by rw [nI_leE (by omega) (by omega)]; omega), rdI_n (by omega) (by omega), Option.bind_some, hpl p hp, n1, Option.bind_some, rdI_n (by omega) (by omega), Option.bind_some, hpl k hk2, n2, Option.bind_some]
    cases e1 : fstB (fun i => decide (plB X Y i = plB U V p)) N with
    | none =>
      have e9 : st9 (plB X Y) (plB U V) s t N p k = 0 := by unfold st9; rw [e1]
      rw [if_pos (show oI none = -1 from rfl), e9, nI_1]
      rfl
    | some a =>
      have ha := fstB_lt e1
      rw [if_neg (show ¬ oI (some a) = -1 by rw [show oI (some a) = nI a from rfl, nI_m1 (by omega)]; exact id)]
      cases e2 : fstB (fun i => decide (plB X Y i = plB U V k)) N with
      | none =>
        have e9 : st9 (plB X Y) (plB U V) s t N p k = 0 := by unfold st9; rw [e1, e2]
        rw [if_pos (show oI none = -1 from rfl), e9, nI_1]
        rfl
      | some b =>
        have hb := fstB_lt e2
        have ⟨s24, _⟩ := part_24 hN hS ha
        have e9 : st9 (plB X Y) (plB U V) s t N p k = if (s a).testBit b = (t p).testBit k then 0 else 1 := by unfold st9; rw [e1, e2]; rfl
        rw [if_neg (show ¬ oI (some b) = -1 by rw [show oI (some b) = nI b from rfl, nI_m1 (by omega)]; exact id), show oI (some a) = nI a from rfl, show oI (some b) = nI b from rfl, rdI_n (by omega) (by omega), Option.bind_some, hs a ha, has9b F (by omega) (by omega), Option.bind_some, rdI_n (by omega) (by omega), Option.bind_some, rdI_n (by omega) (by omega), Option.bind_some, wa, wb, nI_1, e9]
        by_cases cw : wp p = wp k
        · rw [if_pos (congrArg nI cw), hww.mp cw]
          cases es : (s a).testBit b with
          | true => rw [if_pos (show bI true = 1 by decide +kernel)]; rfl
          | false => rw [if_neg (show ¬ bI false = 1 by decide +kernel), Option.bind_some, nI_1]; rfl
        · have tf : (t p).testBit k = false := by
            cases q : (t p).testBit k with
            | true => exact absurd (hww.mpr q) cw
            | false => rfl
          rw [if_neg (fun q => cw ((nI_eq (by omega) (by omega)).mp q)), tf]
          cases es : (s a).testBit b with
          | true => rw [if_neg (show ¬ bI true = 0 by decide +kernel), Option.bind_some, nI_1]; rfl
          | false => rw [if_pos (show bI false = 0 by decide +kernel)]; rfl
  · unfold mX9_stirred_b49
    simp only []
    rw [if_pos (show nI p ≤ nI p by rw [nI_leE (by omega) (by omega)]; omega)]
theorem st_out9 {F N M : Nat} {X Y W U V Z s t : Nat → Nat} {r4 r5 place ws us vs : Nat → Int32} (hF : 1000 ≤ F) (gN : GOOD N X Y W) (gM : GOOD M U V Z) (hP : ROWS N X Y W ws us vs) (hS : PART N s) (hT : WPS M t r4) (hpl : ∀ p, p < M → place p = nI (pn U V p)) (hs : ∀ p, p < N → r5 p = nI (s p)) :
    loop (fun s38 : Int32 × Int32 => mX9_stirred_b38 F (nI N) (nI M) place us vs r4 r5 s38.1 s38.2) F ((0 : Int32), (0 : Int32)) = some (nI (sumB (fun p => sumB (fun q => st9 (plB X Y) (plB U V) s t N p q) p) M), (0 : Int32), r5, r4) := by
  have hM := gM.1
  refine lp (fun k => (nI (sumB (fun p => sumB (fun q => st9 (plB X Y) (plB U V) s t N p q) p) k), nI k)) 0 M _ (by omega) rfl (fun k _ hk => ?_) ?_ (by omega)
  · have h := st_in9 (F := F) (c0 := sumB (fun p => sumB (fun q => st9 (plB X Y) (plB U V) s t N p q) p) k) hF gN gM hP hS hT hpl hs hk
    unfold mX9_stirred_b38
    rw [if_neg (show ¬ nI M ≤ nI k by rw [nI_leE (by omega) (by omega)]; omega), h, Option.bind_some, nI_1]
    rfl
  · unfold mX9_stirred_b38
    rw [if_pos (show nI M ≤ nI M by rw [nI_leE (by omega) (by omega)]; omega)]
theorem st_out8 {F N M : Nat} {X Y W U V Z s t : Nat → Nat} {nws nxs nys aws axs ays : Nat → Int32} {r3 r4 : Int32 × (Nat → Int32) × (Nat → Int32) × (Nat → Int32) × (Nat → Int32) × (Nat → Int32)} (hF : 1000 ≤ F) (gN : GOOD N X Y W) (gM : GOOD M U V Z) (hP : ROWS N X Y W nws nxs nys) (hQ : ROWS M U V Z aws axs ays) (hS : PART N s) (hT : PART M t) (hga : ∀ p, p < N → r3.2.1 p = nI (ixB s (lo (s p)))) (hgb : ∀ p, p < M → r4.2.1 p = nI (ixB t (lo (t p)))) (row0 : Nat → Int32) :
    ∃ row, loop (fun s37 : Int32 × Int32 × (Nat → Int32) => mX8_stirred_b37 F (nI M) (nI N) axs ays nxs nys r3.1 r3.2.1 r3.2.2.1 r3.2.2.2.1 r3.2.2.2.2.1 r3.2.2.2.2.2 r4.1 r4.2.1 r4.2.2.1 r4.2.2.2.1 r4.2.2.2.2.1 r4.2.2.2.2.2 s37.1 s37.2.1 s37.2.2) F ((0 : Int32), (0 : Int32), row0) =
      some (nI (sumB (fun p => sumB (fun q => st8 (plB X Y) (plB U V) s t M p q) p) N), r4.1, r3.1, r4.2.1, r4.2.2.1, r4.2.2.2.1, r4.2.2.2.2.1, r4.2.2.2.2.2, row, r3.2.1, r3.2.2.1, r3.2.2.2.1, r3.2.2.2.2.1, r3.2.2.2.2.2) := by
  have hN := gN.1
  have hM := gM.1
  refine Exists.elim (lpI (body := fun s37 : Int32 × Int32 × (Nat → Int32) => mX8_stirred_b37 F (nI M) (nI N) axs ays nxs nys r3.1 r3.2.1 r3.2.2.1 r3.2.2.2.1 r3.2.2.2.2.1 r3.2.2.2.2.2 r4.1 r4.2.1 r4.2.2.1 r4.2.2.2.1 r4.2.2.2.2.1 r4.2.2.2.2.2 s37.1 s37.2.1 s37.2.2) (F := F)
    (fun k (row : Nat → Int32) => (nI (sumB (fun p => sumB (fun q => st8 (plB X Y) (plB U V) s t M p q) p) k), nI k, row)) (fun k row => ∀ q, q < k → row q = oI (fstB (fun i => decide (plB U V i = plB X Y q)) M)) 0 N
    (fun row => (nI (sumB (fun p => sumB (fun q => st8 (plB X Y) (plB U V) s t M p q) p) N), r4.1, r3.1, r4.2.1, r4.2.2.1, r4.2.2.2.1, r4.2.2.2.2.1, r4.2.2.2.2.2, row, r3.2.1, r3.2.2.1, r3.2.2.2.1, r3.2.2.2.2.1, r3.2.2.2.2.2)) row0 (by omega) (s0 := ((0 : Int32), (0 : Int32), row0)) rfl
    (fun q hq => by omega) (fun k row _ hk hI2 => ?_) (fun row _ => ?_) (by omega)) (fun row hr => ⟨row, hr.1⟩)
  · have ⟨_, x1, y1⟩ := hP k hk
    have f := find4 (F := F) hF hM (nI (X k)) (nI (Y k)) axs ays
    rw [find_pl gN gM hQ hk] at f
    have ha : ∀ j, j < k + 1 → upd row k (oI (fstB (fun i => decide (plB U V i = plB X Y k)) M)) j = oI (fstB (fun i => decide (plB U V i = plB X Y j)) M) := upd_all (g := fun j => oI (fstB (fun i => decide (plB U V i = plB X Y j)) M)) hI2 rfl
    have h := st_in8 (F := F) (A := plB X Y) (B := plB U V) (c0 := sumB (fun p => sumB (fun q => st8 (plB X Y) (plB U V) s t M p q) p) k) hF hN hM hS hT hk hga hgb (fun q hq => ha q (by omega))
    refine ⟨upd row k (oI (fstB (fun i => decide (plB U V i = plB X Y k)) M)), ?_, ha⟩
    unfold mX8_stirred_b37
    simp only []
    rw [if_neg (show ¬ nI N ≤ nI k by rw [nI_leE (by omega) (by omega)]; omega), rdI_n (by omega) (by omega), Option.bind_some, rdI_n (by omega) (by omega), Option.bind_some, x1, y1, f, Option.bind_some, wrI_n (by omega) (by omega), Option.bind_some, h, Option.bind_some, nI_1]
    rfl
  · unfold mX8_stirred_b37
    simp only []
    rw [if_pos (show nI N ≤ nI N by rw [nI_leE (by omega) (by omega)]; omega)]
theorem call_stirred {F : Nat} (hF : 5000 ≤ F) : Call_stirred F INV := by
  intro ca cl ci fr a1 h
  have h0 := h
  obtain ⟨N, M, S, X, Y, W, U, V, Z, ⟨g1, g2, g3, g4, g5, g6⟩, ⟨i8, i9, i15, i2, i3, i18, i19⟩, ⟨r1, r2, r3⟩, h4, h5, h6, h7⟩ := h
  have hN := g1.1
  rcases zm_or a1 with ⟨z, hz, rfl, z1, z2⟩ | hz
  · have hS := szB_part (X := X) (Y := Y) (z := z) hN
    have hT := szB_part (X := U) (Y := V) (z := z) g2.1
    have z8 := isZoom8 F (nI z)
    have z9 := isZoom9 F (nI z)
    rw [decide_eq_true (p := 0 ≤ (nI z).toInt ∧ (nI z).toInt ≤ 10) ⟨z1, z2⟩] at z8 z9
    obtain ⟨c3, e3, s3⟩ := cutZ (F := F) (by omega) g1 r1 h4 hz i8 i9 (ci 11) (ca 38) (ca 39) (ca 40) (ca 41) (ca 42)
    obtain ⟨c4, e4, s4⟩ := cutZ (F := F) (by omega) g2 r3 h5 hz i2 i3 (ci 10) (ca 32) (ca 33) (ca 34) (ca 35) (ca 36)
    obtain ⟨row, e8⟩ := st_out8 (F := F) (by omega) g1 g2 r1 r3 hS hT s3.2.2 s4.2.2 (ca 37)
    have E8 : mX8_stirred F (nI z) (ci 2) (ci 3) (ci 8) (ci 9) (ci 10) (ci 11) (ca 0) (ca 6) (ca 7) (ca 8) (ca 9) (ca 19) (ca 25) (ca 26) (ca 27) (ca 28) (ca 32) (ca 33) (ca 34) (ca 35) (ca 36) (ca 37) (ca 38) (ca 39) (ca 40) (ca 41) (ca 42) = some (nI (sumB (fun p => sumB (fun q => st8 (plB X Y) (plB U V) (szB X Y N z) (szB U V M z) M p q) p) N), c4.1, c3.1, c4.2.1, c4.2.2.1, c4.2.2.2.1, c4.2.2.2.2.1, c4.2.2.2.2.2, row, c3.2.1, c3.2.2.1, c3.2.2.2.1, c3.2.2.2.2.1, c3.2.2.2.2.2) := by
      unfold mX8_stirred
      rw [z8, Option.bind_some, if_neg (by rw [k0T]; exact id), e3, Option.bind_some, e4, Option.bind_some, i3, i9]
      exact e8
    rcases i19 with ⟨q0, n0, m0⟩ | q1
    · have E9 : mX9_stirred F (nI z) (ci 14) (ci 15) (ci 18) (ci 19) (ca 64) (ca 68) (ca 74) (ca 75) (ca 76) (ca 77) (ca 78) (ca 80) (ca 81) (ca 82) = some ((0 : Int32), (0 : Int32), ca 68, ca 76) := by
        unfold mX9_stirred
        rw [z9, Option.bind_some, if_neg (by rw [k0T]; exact id), if_pos q0]
      refine ⟨_, _, E8, E9, ?_, h0⟩
      rw [n0]
      rfl
    · obtain ⟨t4, w4, p4⟩ := laysWas9 (F := F) (by omega) g2 hz h7 (ca 76)
      obtain ⟨t5, w5, p5⟩ := laysZoom9 (F := F) (by omega) hN g1.2.1 hz h6 (ca 68)
      have e9 := st_out9 (F := F) (by omega) g1 g2 r2 hS p4 h7.1 p5
      have E9 : mX9_stirred F (nI z) (ci 14) (ci 15) (ci 18) (ci 19) (ca 64) (ca 68) (ca 74) (ca 75) (ca 76) (ca 77) (ca 78) (ca 80) (ca 81) (ca 82) = some (nI (sumB (fun p => sumB (fun q => st9 (plB X Y) (plB U V) (szB X Y N z) (szB U V M z) N p q) p) M), (0 : Int32), t5, t4) := by
        unfold mX9_stirred
        rw [z9, Option.bind_some, if_neg (by rw [k0T]; exact id), q1, if_neg (show ¬ (1 : Int32) = 0 by decide +kernel), i18, i15, w4, Option.bind_some, w5, Option.bind_some]
        exact e9
      exact ⟨_, _, E8, E9, congrArg nI (st_same (fun i j h1 h2 => good_pl g1 h1 h2) (fun i j h1 h2 => good_pl g2 h1 h2)), h0⟩
  · have z8 := isZoom8 F a1
    have z9 := isZoom9 F a1
    rw [decide_eq_false (p := 0 ≤ a1.toInt ∧ a1.toInt ≤ 10) (by omega)] at z8 z9
    refine ⟨((-1 : Int32), ci 10, ci 11, ca 32, ca 33, ca 34, ca 35, ca 36, ca 37, ca 38, ca 39, ca 40, ca 41, ca 42), ((-1 : Int32), (0 : Int32), ca 68, ca 76), ?_, ?_, rfl, h0⟩
    · unfold mX8_stirred
      rw [z8, Option.bind_some, if_pos (by rw [k0F]; exact trivial)]
    · unfold mX9_stirred
      rw [z9, Option.bind_some, if_pos (by rw [k0F]; exact trivial)]
