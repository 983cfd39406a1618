/-! ===== PURE 26: calls member, splits, drift ===== -/
theorem cuts8 {F N z : Nat} {X Y W : Nat → Nat} {aparts fs firsts ja os parts pa roots seconds ws pxs pys : Nat → Int32} {pairs : Nat → Int64} {oc pc : Int32} (hF : 1000 ≤ F) (gd : GOOD N X Y W) (hP : ROWS N X Y W ws pxs pys) (h : TR2 X Y N aparts fs firsts ja os parts pa roots seconds pairs) (hz : z ≤ 10) (hoc : oc = nI (N - 1)) (hpc : pc = nI N) (g cnt : Int32) (groupAt sets weights xs ys : Nat → Int32) :
    ∃ r, mX8_cutsGroup F (nI z) g oc pc cnt aparts parts ws pxs pys groupAt sets weights xs ys = some (bI (decide (0 ≤ g.toInt ∧ g.toInt < (cntB (hdB (szB X Y N z)) N : Nat))), r) ∧ SCALE N (szB X Y N z) X Y W r.1 r.2.1 r.2.2.1 r.2.2.2.1 r.2.2.2.2.1 r.2.2.2.2.2 := by
  obtain ⟨r, e, gr⟩ := cutZ (F := F) hF gd hP h hz hoc hpc cnt groupAt sets weights xs ys
  refine ⟨r, ?_, gr⟩
  have hC : cntB (hdB (szB X Y N z)) N ≤ N := cntB_le _ _
  have hN := gd.1
  unfold mX8_cutsGroup
  rw [isZoom8, tI_n (by omega), decide_eq_true (by omega), Option.bind_some, if_neg (by rw [k0T]; exact id), e, Option.bind_some]
  by_cases h1 : g < 0
  · have h2 := tI_lt.mp h1
    rw [i_0] at h2
    rw [if_pos h1, decide_eq_false (by omega)]
    rfl
  · have h2 : ¬ g.toInt < 0 := fun q => h1 (tI_lt.mpr (by rw [i_0]; exact q))
    rw [if_neg h1, gr.1]
    by_cases h3 : nI (cntB (hdB (szB X Y N z)) N) ≤ g
    · have h4 := tI_le.mp h3
      rw [tI_n (by omega)] at h4
      rw [if_pos h3, decide_eq_false (by omega), ← gr.1]
      rfl
    · have h4 : ¬ ((cntB (hdB (szB X Y N z)) N : Nat) : Int) ≤ g.toInt := fun q => h3 (tI_le.mpr (by rw [tI_n (by omega)]; exact q))
      rw [if_neg h3, decide_eq_true (by omega), ← gr.1]
      rfl
theorem fst_cut {m N : Nat} {Q : Nat → Bool} (hm : m < 2 ^ N) (hN : N ≤ 24) : fstB (fun k => m.testBit k && Q k) 24 = fstB (fun k => m.testBit k && Q k) N := by
  cases e : fstB (fun k => m.testBit k && Q k) N with
  | none =>
    refine fstB_none.mpr (fun k _ => ?_)
    by_cases g : k < N
    · exact fstB_none.mp e k g
    · cases b : m.testBit k with
      | false => rfl
      | true => exact absurd (bit_lt hm b) g
  | some k =>
    have ⟨k1, k2, k3⟩ := fstB_some.mp e
    exact fstB_some.mpr ⟨by omega, k2, k3⟩
theorem memb9 {F N m : Nat} (hF : 1000 ≤ F) (hN : N ≤ 24) (hm : m < 2 ^ 31) (i : Int32) (t : Nat → Int32) :
    loop (fun s19 : Int32 × Int32 => mX9_member_b19 F (nI N) (nI m) t s19.1 s19.2) F (i, (0 : Int32)) = some (oI (fstB (fun k => m.testBit k && decide (nI (cntB m.testBit k) = i)) N), 0, t) := by
  refine (lpS (fun k => (i - nI (cntB m.testBit k), nI k)) (fun k => m.testBit k && decide (nI (cntB m.testBit k) = i)) N (fun k => (nI k, (0 : Int32), t)) (-1, 0, t) (by show _ = (i - nI 0, nI 0); rw [sub_0]; rfl) (fun k hk _ => ?_) (fun _ => ?_) (by omega)).trans ?_
  · unfold mX9_member_b19
    simp only []
    rw [if_neg (by rw [nI_leE (by omega) (by omega)]; omega), has9b F hm (by omega), Option.bind_some]
    simp only [cntB]
    cases e : m.testBit k with
    | true =>
      rw [if_neg (by rw [k0T]; exact id), Bool.true_and]
      by_cases c : nI (cntB m.testBit k) = i
      · rw [if_pos (by rw [sub0]; exact c), if_pos (decide_eq_true c)]
      · rw [if_neg (by rw [sub0]; exact c), Option.bind_some, sub_1, nI_1, if_neg (by rw [decide_eq_false c]; decide)]
        rfl
    | false =>
      rw [if_pos (by rw [k0F]; trivial), nI_1, Bool.false_and, if_neg (by decide)]
      rfl
  · unfold mX9_member_b19
    simp only []
    rw [if_pos (by rw [nI_leE (by omega) (by omega)]; omega)]
  · cases fstB (fun k => m.testBit k && decide (nI (cntB m.testBit k) = i)) N <;> rfl
theorem call_member {F : Nat} (hF : 5000 ≤ F) : Call_member F INV := by
  intro ca cl ci fr a1 a2 a3 h
  have h0 := h
  obtain ⟨N, M, S, X, Y, W, U, V, Z, ⟨g1, g2, g3, g4, g5, g6⟩, ⟨i8, i9, i15, i2, i3, i18, i19⟩, ⟨r1, r2, r3⟩, h4, h5, h6, h7⟩ := h
  have hN := g1.1
  rcases zm_or a1 with ⟨z, hz, rfl, z1, z2⟩ | hz
  · have hS := szB_part (X := X) (Y := Y) (z := z) hN
    obtain ⟨r, er, gr⟩ := cuts8 (F := F) (by omega) g1 r1 h4 hz i8 i9 a2 (ci 11) (ca 38) (ca 39) (ca 40) (ca 41) (ca 42)
    obtain ⟨t, e, gt⟩ := groupSet9 (F := F) (by omega) hN g1.2.1 hz h6 (ca 68) a2
    rw [← i15] at e
    rcases gs_or hN hS a2 with ⟨p, p1, p2, p3, p4, p5, p6⟩ | ⟨p1, p2⟩
    · have ⟨q24, q0⟩ := part_24 hN hS p1
      have ixl := ix_lt (s := szB X Y N z) (p := p)
      rw [decide_eq_true ⟨p5, p6⟩] at er
      rw [p4] at e
      have m9 := memb9 (F := F) (by omega) hN (show szB X Y N z p < 2 ^ 31 by omega) a3 t
      rw [← i15] at m9
      refine ⟨?r8, ?r9, ?e8, ?e9, ?rest⟩
      case e8 =>
        unfold mX8_member
        rw [er, Option.bind_some, if_neg (by rw [k0T]; exact id), p3, rdI_n (by omega) (by omega), Option.bind_some, (gr.2.1 p p1 p2).1, nth6 (by omega) (by omega), Option.bind_some, fst_cut (hS p p1).2.1 hN]
      case e9 =>
        unfold mX9_member
        rw [e, Option.bind_some, m9]
      case rest => exact ⟨rfl, h0⟩
    · rw [decide_eq_false (by omega)] at er
      rw [p2] at e
      have m9 := memb9 (F := F) (m := 0) (by omega) hN (by omega) a3 t
      have z0 : fstB (fun k => Nat.testBit 0 k && decide (nI (cntB (Nat.testBit 0) k) = a3)) N = none := fstB_none.mpr (fun k _ => by rw [Nat.zero_testBit]; rfl)
      rw [← i15, z0] at m9
      refine ⟨?r8b, ?r9b, ?e8b, ?e9b, ?restb⟩
      case e8b =>
        unfold mX8_member
        rw [er, Option.bind_some, if_pos (by rw [k0F]; trivial)]
      case e9b =>
        unfold mX9_member
        rw [e, Option.bind_some, m9]
      case restb => exact ⟨rfl, h0⟩
  · have m9 := memb9 (F := F) (m := 0) (by omega) hN (by omega) a3 (ca 68)
    have z0 : fstB (fun k => Nat.testBit 0 k && decide (nI (cntB (Nat.testBit 0) k) = a3)) N = none := fstB_none.mpr (fun k _ => by rw [Nat.zero_testBit]; rfl)
    rw [← i15, z0] at m9
    refine ⟨?r8c, ?r9c, ?e8c, ?e9c, ?restc⟩
    case e8c =>
      unfold mX8_member mX8_cutsGroup
      rw [isZoom8, decide_eq_false hz, Option.bind_some, if_pos (by rw [k0F]; trivial), Option.bind_some, if_pos rfl]
    case e9c =>
      unfold mX9_member mX9_groupSet
      rw [isZoom9, decide_eq_false hz, Option.bind_some, if_pos (by rw [k0F]; trivial), Option.bind_some]
      exact m9
    case restc => exact ⟨rfl, h0⟩
/-- the groups of the finer scale in a set -/
theorem within5 {F N m : Nat} {s X Y W : Nat → Nat} {cnt : Int32} {groupAt sets weights xs ys : Nat → Int32} {Q : Nat → Bool} (hF : 1000 ≤ F) (hN : N ≤ 24) (hS : PART N s) (h : SCALE N s X Y W cnt groupAt sets weights xs ys)
    (hQ : ∀ p, p < N → hdB s p = true → ((∀ i, (s p).testBit i = true → m.testBit i = true) ↔ Q p = true)) :
    ∃ P, mX5_groupsWithin F (nI m) cnt sets = some (nI (mkB P (ixB s N))) ∧ ∀ p, p < N → hdB s p = true → P (ixB s p) = Q p := by
  have hC : ixB s N ≤ N := ix_lt
  have hc : cnt = nI (ixB s N) := h.1
  have hP : ∀ p, p < N → hdB s p = true → decide (sets (ixB s p) &&& (nI m ^^^ (-1 : Int32)) = 0) = Q p := fun p hp hd => by
    have ⟨q24, q0⟩ := part_24 hN hS hp
    rw [(h.2.1 p hp hd).1]
    cases e : Q p with
    | true => exact decide_eq_true (by rw [sub_mask (by omega)]; exact (hQ p hp hd).mpr e)
    | false => exact decide_eq_false (by rw [sub_mask (by omega)]; intro q; have := (hQ p hp hd).mp q; rw [e] at this; cases this)
  refine ⟨fun g => decide (sets g &&& (nI m ^^^ (-1 : Int32)) = 0), ?_, hP⟩
  unfold mX5_groupsWithin
  rw [hc]
  refine lp (fun k => (nI (mkB (fun g => decide (sets g &&& (nI m ^^^ (-1 : Int32)) = 0)) k), nI k)) 0 (ixB s N) _ (by omega) rfl (fun k _ hk => ?_) ?_ (by omega)
  · unfold mX5_groupsWithin_b4
    simp only []
    rw [if_neg (by rw [nI_leE (by omega) (by omega)]; omega), rdI_n (by omega) (by omega), Option.bind_some]
    by_cases c : sets k &&& (nI m ^^^ (-1 : Int32)) = 0
    · rw [if_pos c, setbit (mk_lt31 _ (by omega)) (by omega), Option.bind_some, nI_1]
      simp only [mkB]
      rw [if_pos (decide_eq_true c)]
    · rw [if_neg c, nI_1]
      simp only [mkB]
      rw [if_neg (by rw [decide_eq_false c]; decide)]
  · unfold mX5_groupsWithin_b4
    simp only []
    rw [if_pos (by rw [nI_leE (by omega) (by omega)]; omega)]
/-- whether a head is in a set -/
def inQ (m : Nat) (s : Nat → Nat) (p : Nat) : Bool := hdB s p && m.testBit p
theorem splits9_in {F N m : Nat} {s : Nat → Nat} {part : Nat → Int32} (hF : 1000 ≤ F) (hN : N ≤ 24) (hS : PART N s) (h : ∀ p, p < N → part p = nI (s p)) (hm : m < 2 ^ 31) (i : Int32) :
    loop (fun s39 : Int32 × Int32 => mX9_splits_b39 F (nI N) (nI m) part s39.1 s39.2) F (i, (0 : Int32)) = some (match fstB (fun p => inQ m s p && decide (nI (cntB (inQ m s) p) = i)) N with | some p => .inl (nI p) | none => .inr (-1, 0, part)) := by
  refine lpS (fun k => (i - nI (cntB (inQ m s) k), nI k)) (fun p => inQ m s p && decide (nI (cntB (inQ m s) p) = i)) N (fun p => (Sum.inl (nI p) : Int32 ⊕ (Int32 × Int32 × (Nat → Int32)))) (Sum.inr (-1, 0, part)) (by show _ = (i - nI 0, nI 0); rw [sub_0]; rfl) (fun k hk _ => ?_) (fun _ => ?_) (by omega)
  · have f := isFirst9 (F := F) hF hN hS h hk
    unfold mX9_splits_b39
    simp only []
    rw [if_neg (by rw [nI_leE (by omega) (by omega)]; omega), has9b F hm (by omega), Option.bind_some]
    simp only [cntB]
    cases e : m.testBit k with
    | true =>
      rw [if_neg (by rw [k0T]; exact id), f, Option.bind_some]
      cases e2 : hdB s k with
      | true =>
        have eq : inQ m s k = true := by unfold inQ; rw [e, e2]; rfl
        rw [if_neg (by rw [k0T]; exact id), eq, Bool.true_and]
        by_cases c : nI (cntB (inQ m s) k) = i
        · rw [if_pos (by rw [sub0]; exact c), if_pos (decide_eq_true c)]
        · rw [if_neg (by rw [sub0]; exact c), Option.bind_some, sub_1, nI_1, if_neg (by rw [decide_eq_false c]; decide)]
          rfl
      | false =>
        have eq : inQ m s k = false := by unfold inQ; rw [e2]; rfl
        rw [if_pos (by rw [k0F]; trivial), nI_1, eq, Bool.false_and, if_neg (by decide)]
        rfl
    | false =>
      have eq : inQ m s k = false := by unfold inQ; rw [e, Bool.and_false]
      rw [if_pos (by rw [k0F]; trivial), nI_1, eq, Bool.false_and, if_neg (by decide)]
      rfl
  · unfold mX9_splits_b39
    simp only []
    rw [if_pos (by rw [nI_leE (by omega) (by omega)]; omega)]
theorem laysZoom9p {F N z : Nat} {X Y : Nat → Nat} (hF : 1000 ≤ F) (hN : N ≤ 24) (hI : IN N X Y) (hz : z < 10) {aj ap first made one other second wide : Nat → Int32} (h : TR9 X Y N aj ap first made one other second wide) (part : Nat → Int32) :
    ∃ t, mX9_laysZoom F (nI z + 1) (nI N) made part wide = some t ∧ ∀ p, p < N → t p = nI (szB X Y N (z + 1) p) := by
  rw [nI_1]
  exact laysZoom9 hF hN hI (by omega) h part
theorem call_splits {F : Nat} (hF : 5000 ≤ F) : Call_splits F INV := by
  intro ca cl ci fr a1 a2 a3 h
  have h0 := h
  obtain ⟨N, M, S, X, Y, W, U, V, Z, ⟨g1, g2, g3, g4, g5, g6⟩, ⟨i8, i9, i15, i2, i3, i18, i19⟩, ⟨r1, r2, r3⟩, h4, h5, h6, h7⟩ := h
  have hN := g1.1
  rcases zm_or a1 with ⟨z, hz, rfl, z1, z2⟩ | hz
  · have hS := szB_part (X := X) (Y := Y) (z := z) hN
    obtain ⟨r, er, gr⟩ := cuts8 (F := F) (by omega) g1 r1 h4 hz i8 i9 a2 (ci 11) (ca 38) (ca 39) (ca 40) (ca 41) (ca 42)
    obtain ⟨t, e, gt⟩ := groupSet9 (F := F) (by omega) hN g1.2.1 hz h6 (ca 68) a2
    rw [← i15] at e
    by_cases e10 : z = 10
    · subst e10
      refine ⟨?r8, ?r9, ?e8, ?e9, ?rest⟩
      case r9 => exact (-1, 0, t)
      case e8 =>
        unfold mX8_splits
        rw [if_pos (show nI 10 = (10 : Int32) from rfl)]
      case e9 =>
        unfold mX9_splits
        rw [e, Option.bind_some]
        by_cases q : nI (gsB N (szB X Y N 10) a2) = 0
        · rw [if_pos q]
        · rw [if_neg q, if_pos (show nI 10 = (10 : Int32) from rfl)]
      case rest => exact ⟨rfl, h0⟩
    · have nz : ¬ nI z = (10 : Int32) := by rw [c10, nI_eqE (by omega) (by omega)]; exact e10
      rcases gs_or hN hS a2 with ⟨p, p1, p2, p3, p4, p5, p6⟩ | ⟨p1, p2⟩
      · have ⟨q24, q0⟩ := part_24 hN hS p1
        have ixl := ix_lt (s := szB X Y N z) (p := p)
        rw [decide_eq_true ⟨p5, p6⟩] at er
        rw [p4] at e
        have hS2 := szB_part (X := X) (Y := Y) (z := z + 1) hN
        obtain ⟨u, eu, gu⟩ := cutZ (F := F) (by omega) g1 r1 h4 (show z + 1 ≤ 10 by omega) i8 i9 (ci 10) (ca 32) (ca 33) (ca 34) (ca 35) (ca 36)
        rw [← nI_1] at eu
        obtain ⟨P, eP, hP⟩ := within5 (F := F) (m := szB X Y N z p) (Q := fun q => (szB X Y N z p).testBit q) (by omega) hN hS2 gu (fun q hq _ => sz_in hN hq p1)
        obtain ⟨t2, et2, gt2⟩ := laysZoom9p (F := F) (by omega) hN g1.2.1 (show z < 10 by omega) h6 t
        have s9 := splits9_in (F := F) (by omega) hN hS2 gt2 (show szB X Y N z p < 2 ^ 31 by omega) a3
        have en := en_nth hN hP a3
        have ixN := ix_lt (s := szB X Y N (z + 1)) (p := N)
        have n0 : ¬ nI (szB X Y N z p) = 0 := by rw [nI_eq0 (by omega)]; exact q0
        have e8 : mX8_splits F (nI z) a2 a3 (ci 8) (ci 9) (ci 10) (ci 11) (ca 19) (ca 25) (ca 26) (ca 27) (ca 28) (ca 32) (ca 33) (ca 34) (ca 35) (ca 36) (ca 38) (ca 39) (ca 40) (ca 41) (ca 42) =
            some (oI ((fstB (fun q => inQ (szB X Y N z p) (szB X Y N (z + 1)) q && decide (nI (cntB (inQ (szB X Y N z p) (szB X Y N (z + 1))) q) = a3)) N).map (ixB (szB X Y N (z + 1)))), u.1, r.1, u.2.1, u.2.2.1, u.2.2.2.1, u.2.2.2.2.1, u.2.2.2.2.2, r.2.1, r.2.2.1, r.2.2.2.1, r.2.2.2.2.1, r.2.2.2.2.2) := by
          unfold mX8_splits
          rw [if_neg nz, er, Option.bind_some, if_neg (by rw [k0T]; exact id), eu, Option.bind_some, p3, rdI_n (by omega) (by omega), Option.bind_some, (gr.2.1 p p1 p2).1, eP, Option.bind_some, nth6 (by omega) (mk_lt31 _ (by omega)), Option.bind_some, en]
          rfl
        have e9 : mX9_splits F (nI z) a2 a3 (ci 14) (ci 15) (ca 64) (ca 68) (ca 80) = some (oI ((fstB (fun q => inQ (szB X Y N z p) (szB X Y N (z + 1)) q && decide (nI (cntB (inQ (szB X Y N z p) (szB X Y N (z + 1))) q) = a3)) N).map (ixB (szB X Y N (z + 1)))), 0, t2) := by
          unfold mX9_splits
          rw [e, Option.bind_some, if_neg n0, if_neg nz, i15, et2, Option.bind_some, s9, Option.bind_some]
          cases ef : fstB (fun q => inQ (szB X Y N z p) (szB X Y N (z + 1)) q && decide (nI (cntB (inQ (szB X Y N z p) (szB X Y N (z + 1))) q) = a3)) N with
          | none => rfl
          | some q =>
            have ⟨q1, q2, _⟩ := fstB_some.mp ef
            have hq : hdB (szB X Y N (z + 1)) q = true := by
              have := ((Bool.and_eq_true _ _).mp q2).1
              unfold inQ at this
              exact ((Bool.and_eq_true _ _).mp this).1
            have n9 := number9 (F := F) (by omega) hN hS2 gt2 q1
            have el : lo (szB X Y N (z + 1) q) = q := of_decide_eq_true hq
            simp only []
            rw [n9, Option.bind_some, el]
            rfl
        exact ⟨_, _, e8, e9, rfl, h0⟩
      · rw [decide_eq_false (by omega)] at er
        rw [p2] at e
        refine ⟨?r8b, ?r9b, ?e8b, ?e9b, ?restb⟩
        case e8b =>
          unfold mX8_splits
          rw [if_neg nz, er, Option.bind_some, if_pos (by rw [k0F]; trivial)]
        case e9b =>
          unfold mX9_splits
          rw [e, Option.bind_some, if_pos (show nI 0 = (0 : Int32) from rfl)]
        case restb => exact ⟨rfl, h0⟩
  · have nz : ¬ a1 = (10 : Int32) := fun q => hz (by rw [q, i_10]; omega)
    refine ⟨?r8c, ?r9c, ?e8c, ?e9c, ?restc⟩
    case e8c =>
      unfold mX8_splits mX8_cutsGroup
      rw [if_neg nz, isZoom8, decide_eq_false hz, Option.bind_some, if_pos (by rw [k0F]; trivial), Option.bind_some, if_pos rfl]
    case e9c =>
      unfold mX9_splits mX9_groupSet
      rw [isZoom9, decide_eq_false hz, Option.bind_some, if_pos (by rw [k0F]; trivial), Option.bind_some, if_pos rfl]
    case restc => exact ⟨rfl, h0⟩
/-- sums of ints over those of which p holds -/
def sumI (p : Nat → Bool) (f : Nat → Int32) : Nat → Int32
  | 0 => 0
  | n + 1 => if p n = true then sumI p f n + f n else sumI p f n
theorem en_sumI {s : Nat → Nat} {f g : Nat → Int32} {N : Nat} (h : ∀ p, p < N → hdB s p = true → f (ixB s p) = g p) : ∀ k, k ≤ N → sumI (fun _ => true) f (ixB s k) = sumI (hdB s) g k
  | 0, _ => rfl
  | k + 1, hk => by
    have ih := en_sumI h k (by omega)
    show _ = if hdB s k = true then sumI (hdB s) g k + g k else sumI (hdB s) g k
    by_cases hd : hdB s k = true
    · rw [ix_succ, if_pos hd, if_pos hd, show sumI (fun _ => true) f (ixB s k + 1) = sumI (fun _ => true) f (ixB s k) + f (ixB s k) from rfl, ih, h k (by omega) hd]
    · rw [ix_succ, if_neg hd, if_neg hd, Nat.add_zero, ih]
def farE (x y : Int32) : Int32 := if (if 0 ≤ x then x else 0 - x) < (if 0 ≤ y then y else 0 - y) then (if 0 ≤ y then y else 0 - y) else (if 0 ≤ x then x else 0 - x)
theorem far6 (F : Nat) (x y : Int32) : mX6_farther F x y = some (farE x y) := rfl
theorem centre9 {F N m : Nat} {X Y W : Nat → Nat} {w x y : Nat → Int32} (hF : 1000 ≤ F) (gd : GOOD N X Y W) (hP : ROWS N X Y W w x y) (hm : m < 2 ^ 31) (hw : 1 ≤ wtB W m N) :
    mX9_centre F (nI m) 1 (nI N) w x y = some (nI (ctB X W m N)) ∧ mX9_centre F (nI m) 0 (nI N) w x y = some (nI (ctB Y W m N)) := by
  have hN := gd.1
  have hX : ∀ i, i < N → X i < 1024 := fun i hi => (gd.2.1 i hi).1
  have hY : ∀ i, i < N → Y i < 1024 := fun i hi => (gd.2.1 i hi).2
  have hW : ∀ i, i < N → W i ≤ 99 := fun i hi => (gd.2.2.1 i hi).2
  have bx := sxB_le (m := m) hN hX hW
  have bY := sxB_le (m := m) hN hY hW
  have bw := wtB_le (m := m) hN hW
  have w9 := weight9 (F := F) hF hN hm (rows_w hP)
  have w1 : ¬ nI (wtB W m N) = 0 := by rw [nI_eq0 (by omega)]; omega
  constructor
  · have e : loop (fun s5 : Int32 × Int32 => mX9_centre_b5 F (nI m) 1 (nI N) w x y s5.1 s5.2) F ((0 : Int32), (0 : Int32)) = some (nI (sumB (fun i => if m.testBit i = true then X i * W i else 0) N)) := by
      refine lp (fun k => (nI (sumB (fun i => if m.testBit i = true then X i * W i else 0) k), nI k)) 0 N _ (by omega) rfl (fun k _ hk => ?_) ?_ (by omega)
      · have ⟨p1, p2, p3⟩ := hP k hk
        unfold mX9_centre_b5
        simp only []
        rw [if_neg (by rw [nI_leE (by omega) (by omega)]; omega), has9b F hm (by omega), Option.bind_some]
        cases hb : m.testBit k with
        | true =>
          rw [if_neg (by rw [k0T]; exact id), rdI_n (by omega) (by omega), Option.bind_some, if_neg (by decide +kernel), rdI_n (by omega) (by omega), Option.bind_some, Option.bind_some, p1, p2, pk_mul, nI_add, nI_1, Nat.mul_comm (W k)]
          simp only [sumB]
          rw [if_pos hb]
        | false =>
          rw [if_pos (by rw [k0F]; trivial), nI_1]
          simp only [sumB]
          rw [if_neg (by rw [hb]; decide), Nat.add_zero]
          rfl
      · unfold mX9_centre_b5
        simp only []
        rw [if_pos (by rw [nI_leE (by omega) (by omega)]; omega)]
    unfold mX9_centre ctB
    rw [e, Option.bind_some, w9, Option.bind_some, if_neg w1, pk_div (by omega) (by omega) (by omega)]
  · have e : loop (fun s5 : Int32 × Int32 => mX9_centre_b5 F (nI m) 0 (nI N) w x y s5.1 s5.2) F ((0 : Int32), (0 : Int32)) = some (nI (sumB (fun i => if m.testBit i = true then Y i * W i else 0) N)) := by
      refine lp (fun k => (nI (sumB (fun i => if m.testBit i = true then Y i * W i else 0) k), nI k)) 0 N _ (by omega) rfl (fun k _ hk => ?_) ?_ (by omega)
      · have ⟨p1, p2, p3⟩ := hP k hk
        unfold mX9_centre_b5
        simp only []
        rw [if_neg (by rw [nI_leE (by omega) (by omega)]; omega), has9b F hm (by omega), Option.bind_some]
        cases hb : m.testBit k with
        | true =>
          rw [if_neg (by rw [k0T]; exact id), rdI_n (by omega) (by omega), Option.bind_some, if_pos trivial, rdI_n (by omega) (by omega), Option.bind_some, Option.bind_some, p1, p3, pk_mul, nI_add, nI_1, Nat.mul_comm (W k)]
          simp only [sumB]
          rw [if_pos hb]
        | false =>
          rw [if_pos (by rw [k0F]; trivial), nI_1]
          simp only [sumB]
          rw [if_neg (by rw [hb]; decide), Nat.add_zero]
          rfl
      · unfold mX9_centre_b5
        simp only []
        rw [if_pos (by rw [nI_leE (by omega) (by omega)]; omega)]
    unfold mX9_centre ctB
    rw [e, Option.bind_some, w9, Option.bind_some, if_neg w1, pk_div (by omega) (by omega) (by omega)]
def farB (X Y W : Nat → Nat) (N m k : Nat) : Int32 := farE (nI (ctB X W m N) - nI (ctB X W k N)) (nI (ctB Y W m N) - nI (ctB Y W k N))
theorem farr9 {F N m k : Nat} {X Y W : Nat → Nat} {w x y : Nat → Int32} (hF : 1000 ≤ F) (gd : GOOD N X Y W) (hP : ROWS N X Y W w x y) (hm : m < 2 ^ 31) (hw : 1 ≤ wtB W m N) (hk : k < 2 ^ 31) (hw2 : 1 ≤ wtB W k N) :
    mX9_farther F (nI m) (nI k) (nI N) w x y = some (farB X Y W N m k) := by
  have a := centre9 (F := F) hF gd hP hm hw
  have b := centre9 (F := F) hF gd hP hk hw2
  unfold mX9_farther
  rw [a.1, b.1, a.2, b.2]
  rfl
theorem call_drift {F : Nat} (hF : 5000 ≤ F) : Call_drift F INV := by
  intro ca cl ci fr a1 h
  have h0 := h
  obtain ⟨N, M, S, X, Y, W, U, V, Z, ⟨g1, g2, g3, g4, g5, g6⟩, ⟨i8, i9, i15, i2, i3, i18, i19⟩, ⟨r1, r2, r3⟩, h4, h5, h6, h7⟩ := h
  have hN := g1.1
  have w9 := isInI9 F a1 0 9
  rw [l_0, l_9] at w9
  by_cases c : 0 ≤ a1.toInt ∧ a1.toInt ≤ 9
  · rw [decide_eq_true c] at w9
    obtain ⟨z, hz, rfl⟩ : ∃ z : Nat, z ≤ 9 ∧ a1 = nI z := ⟨a1.toInt.toNat, by omega, tI_nI c.1⟩
    have q1 : ¬ nI z < 0 := by rw [nI_lt0 (by omega)]; exact id
    have q2 : nI z < (10 : Int32) := by rw [c10, nI_ltE (by omega) (by omega)]; omega
    have hS := szB_part (X := X) (Y := Y) (z := z) hN
    have hS2 := szB_part (X := X) (Y := Y) (z := z + 1) hN
    obtain ⟨r, er, gr⟩ := cutZ (F := F) (by omega) g1 r1 h4 (show z ≤ 10 by omega) i8 i9 (ci 11) (ca 38) (ca 39) (ca 40) (ca 41) (ca 42)
    obtain ⟨u, eu, gu⟩ := cutZ (F := F) (by omega) g1 r1 h4 (show z + 1 ≤ 10 by omega) i8 i9 (ci 10) (ca 32) (ca 33) (ca 34) (ca 35) (ca 36)
    rw [← nI_1] at eu
    have ixN := ix_lt (s := szB X Y N (z + 1)) (p := N)
    have ixN2 := ix_lt (s := szB X Y N z) (p := N)
    have hw : ∀ {s : Nat → Nat}, PART N s → ∀ p, p < N → 1 ≤ wtB W (s p) N := fun {s} hs p hp => wtB_pos (hs p hp).1 (g1.2.2.1 p hp).1 N hp
    have hgp : ∀ p, p < N → mX5_groupOfPart F (nI (szB X Y N (z + 1) p)) r.1 r.2.2.1 = some (nI (ixB (szB X Y N z) (lo (szB X Y N z p)))) := by
      intro p hp
      have ⟨q24, q0⟩ := part_24 hN hS2 hp
      have l := lo_part hN hS hp
      have en := en_fst (s := szB X Y N z) (P := fun g => decide (nI (szB X Y N (z + 1) p) &&& (r.2.2.1 g ^^^ (-1 : Int32)) = 0)) (Q := fun q => decide (lo (szB X Y N z p) = q)) (N := N) (fun q hq hd => by
        have ⟨q24', q0'⟩ := part_24 hN hS hq
        rw [(gr.2.1 q hq hd).1]
        apply decide_eq_decide.mpr
        rw [sub_mask (by omega), sz_in hN hp hq, hd_in hN hS hq hp hd, decide_eq_true_iff])
      have ef : fstB (fun q => hdB (szB X Y N z) q && decide (lo (szB X Y N z p) = q)) N = some (lo (szB X Y N z p)) :=
        fstB_some.mpr ⟨l.1, by rw [hd_lo hN hS hp]; simp, fun i hi => by rw [decide_eq_false (show ¬ lo (szB X Y N z p) = i by omega), Bool.and_false]⟩
      rw [ef] at en
      unfold mX5_groupOfPart
      rw [show r.1 = nI (ixB (szB X Y N z) N) from gr.1]
      refine (lpS nI (fun g => decide (nI (szB X Y N (z + 1) p) &&& (r.2.2.1 g ^^^ (-1 : Int32)) = 0)) (ixB (szB X Y N z) N) nI (-1) rfl (fun k hk _ => ?_) (fun _ => ?_) (by omega)).trans ?_
      · unfold mX5_groupOfPart_b2
        rw [if_neg (by rw [nI_leE (by omega) (by omega)]; omega), rdI_n (by omega) (by omega), Option.bind_some]
        by_cases q : nI (szB X Y N (z + 1) p) &&& (r.2.2.1 k ^^^ (-1 : Int32)) = 0
        · rw [if_pos q, if_pos (decide_eq_true q)]
        · rw [if_neg q, if_neg (by rw [decide_eq_false q]; decide), nI_1]
      · unfold mX5_groupOfPart_b2
        rw [if_pos (by rw [nI_leE (by omega) (by omega)]; omega)]
      · rw [en]
        rfl
    have hcl : loop (fun s42 : Int32 × Int32 => mX8_drift_b42 F r.1 r.2.1 r.2.2.1 r.2.2.2.1 r.2.2.2.2.1 r.2.2.2.2.2 u.1 u.2.1 u.2.2.1 u.2.2.2.1 u.2.2.2.2.1 u.2.2.2.2.2 s42.1 s42.2) F ((0 : Int32), (0 : Int32)) =
        some (sumI (hdB (szB X Y N (z + 1))) (fun p => farB X Y W N (szB X Y N (z + 1) p) (szB X Y N z p)) N, u.1, r.1, u.2.1, u.2.2.1, u.2.2.2.1, u.2.2.2.2.1, u.2.2.2.2.2, r.2.1, r.2.2.1, r.2.2.2.1, r.2.2.2.2.1, r.2.2.2.2.2) := by
      have hg : ∀ g, g < ixB (szB X Y N (z + 1)) N → ∃ f, mX8_drift_b42 F r.1 r.2.1 r.2.2.1 r.2.2.2.1 r.2.2.2.2.1 r.2.2.2.2.2 u.1 u.2.1 u.2.2.1 u.2.2.2.1 u.2.2.2.2.1 u.2.2.2.2.2 f (nI g) = mX8_drift_b42 F r.1 r.2.1 r.2.2.1 r.2.2.2.1 r.2.2.2.2.1 r.2.2.2.2.2 u.1 u.2.1 u.2.2.1 u.2.2.2.1 u.2.2.2.2.1 u.2.2.2.2.2 f (nI g) := fun g _ => ⟨0, rfl⟩
      have en := en_sumI (s := szB X Y N (z + 1)) (f := fun g => farE (u.2.2.2.2.1 g - (match mX5_groupOfPart F (u.2.2.1 g) r.1 r.2.2.1 with | some k => r.2.2.2.2.1 k.toInt.toNat | none => 0)) (u.2.2.2.2.2 g - (match mX5_groupOfPart F (u.2.2.1 g) r.1 r.2.2.1 with | some k => r.2.2.2.2.2 k.toInt.toNat | none => 0)))
        (g := fun p => farB X Y W N (szB X Y N (z + 1) p) (szB X Y N z p)) (N := N) (fun p hp hd => by
          have l := lo_part hN hS hp
          have a := gu.2.1 p hp hd
          have b := gr.2.1 _ l.1 (hd_lo hN hS hp)
          have ixl := ix_lt (s := szB X Y N z) (p := lo (szB X Y N z p))
          rw [a.1, hgp p hp]
          simp only []
          rw [tI_n (by omega), Int.toNat_natCast, a.2.2.1, a.2.2.2, b.2.2.1, b.2.2.2, l.2.2.1]
          rfl) N (Nat.le_refl _)
      rw [← en]
      refine lp (fun k => (sumI (fun _ => true) (fun g => farE (u.2.2.2.2.1 g - (match mX5_groupOfPart F (u.2.2.1 g) r.1 r.2.2.1 with | some k => r.2.2.2.2.1 k.toInt.toNat | none => 0)) (u.2.2.2.2.2 g - (match mX5_groupOfPart F (u.2.2.1 g) r.1 r.2.2.1 with | some k => r.2.2.2.2.2 k.toInt.toNat | none => 0))) k, nI k)) 0 (ixB (szB X Y N (z + 1)) N) _ (by omega) rfl (fun k _ hk => ?_) ?_ (by omega)
      · obtain ⟨p, p1, p2, p3⟩ := hd_ex (s := szB X Y N (z + 1)) (N := N) hk
        have l := lo_part hN hS p1
        have a := gu.2.1 p p1 p2
        have ixl := ix_lt (s := szB X Y N z) (p := lo (szB X Y N z p))
        have hgk : mX5_groupOfPart F (u.2.2.1 k) r.1 r.2.2.1 = some (nI (ixB (szB X Y N z) (lo (szB X Y N z p)))) := by rw [← p3, a.1]; exact hgp p p1
        unfold mX8_drift_b42
        simp only []
        rw [show u.1 = nI (ixB (szB X Y N (z + 1)) N) from gu.1, if_neg (by rw [nI_leE (by omega) (by omega)]; omega), rdI_n (by omega) (by omega), Option.bind_some, hgk, Option.bind_some, if_neg (by rw [nI_m1 (by omega)]; exact id),
          rdI_n (by omega) (by omega), Option.bind_some, rdI_n (by omega) (by omega), Option.bind_some, rdI_n (by omega) (by omega), Option.bind_some, rdI_n (by omega) (by omega), Option.bind_some, far6, Option.bind_some, Option.bind_some, nI_1]
        simp only [sumI, if_true, hgk]
        rw [tI_n (by omega), Int.toNat_natCast]
      · unfold mX8_drift_b42
        simp only []
        rw [if_pos (by rw [show u.1 = nI (ixB (szB X Y N (z + 1)) N) from gu.1, nI_leE (by omega) (by omega)]; omega)]
    obtain ⟨t, et, gt⟩ := laysZoom9 (F := F) (z := z) (by omega) hN g1.2.1 (by omega) h6 (ca 68)
    obtain ⟨t4, e4, g4'⟩ := lpI (body := fun s27 : Int32 × (Nat → Int32) => mX9_drift_b27 F (nI N) t s27.1 s27.2) (F := F) (fun k (q : Nat → Int32) => (nI k, q)) (fun k q => ∀ p, p < k → q p = nI (szB X Y N z p)) 0 N (fun q => q) (ca 58) (by omega) (s0 := ((0 : Int32), ca 58)) rfl
      (fun p hp => by omega) (fun k q _ hk hI2 => by
        refine ⟨upd q k (nI (szB X Y N z k)), ?_, upd_all (g := fun k => nI (szB X Y N z k)) hI2 rfl⟩
        unfold mX9_drift_b27
        rw [if_neg (by rw [nI_leE (by omega) (by omega)]; omega), rdI_n (by omega) (by omega), Option.bind_some, gt k hk, wrI_n (by omega) (by omega), Option.bind_some, nI_1]) (fun q hI2 => by
        unfold mX9_drift_b27
        rw [if_pos (by rw [nI_leE (by omega) (by omega)]; omega)]) (by omega)
    obtain ⟨t2, et2, gt2⟩ := laysZoom9p (F := F) (by omega) hN g1.2.1 (show z < 10 by omega) h6 t
    have hrl : loop (fun s64 : Int32 × Int32 => mX9_drift_b64 F (nI N) (ca 73) (ca 81) (ca 82) t4 t2 s64.1 s64.2) F ((0 : Int32), (0 : Int32)) = some (sumI (hdB (szB X Y N (z + 1))) (fun p => farB X Y W N (szB X Y N (z + 1) p) (szB X Y N z p)) N, 0, t4, t2) := by
      refine lp (fun k => (sumI (hdB (szB X Y N (z + 1))) (fun p => farB X Y W N (szB X Y N (z + 1) p) (szB X Y N z p)) k, nI k)) 0 N _ (by omega) rfl (fun k _ hk => ?_) ?_ (by omega)
      · have f := isFirst9 (F := F) (by omega) hN hS2 gt2 hk
        have ⟨a24, _⟩ := part_24 hN hS hk
        have ⟨b24, _⟩ := part_24 hN hS2 hk
        have fa := farr9 (F := F) (by omega) g1 r2 (show szB X Y N (z + 1) k < 2 ^ 31 by omega) (hw hS2 k hk) (show szB X Y N z k < 2 ^ 31 by omega) (hw hS k hk)
        unfold mX9_drift_b64
        simp only []
        rw [if_neg (by rw [nI_leE (by omega) (by omega)]; omega), f, Option.bind_some]
        cases hd : hdB (szB X Y N (z + 1)) k with
        | true =>
          rw [if_neg (by rw [k0T]; exact id), rdI_n (by omega) (by omega), Option.bind_some, rdI_n (by omega) (by omega), Option.bind_some, gt2 k hk, g4' k hk, fa, Option.bind_some, Option.bind_some, nI_1]
          simp only [sumI]
          rw [if_pos hd]
        | false =>
          rw [if_pos (by rw [k0F]; trivial), nI_1]
          simp only [sumI]
          rw [if_neg (by rw [hd]; decide)]
      · unfold mX9_drift_b64
        simp only []
        rw [if_pos (by rw [nI_leE (by omega) (by omega)]; omega)]
    refine ⟨?r8, ?r9, ?e8, ?e9, ?rest⟩
    case e8 =>
      unfold mX8_drift
      rw [if_neg q1, if_pos q2, er, Option.bind_some, eu, Option.bind_some]
      exact hcl
    case e9 =>
      unfold mX9_drift
      rw [w9, Option.bind_some, if_neg (by rw [k0T]; exact id), i15, et, Option.bind_some, e4, Option.bind_some, et2, Option.bind_some]
      exact hrl
    case rest => exact ⟨rfl, h0⟩
  · rw [decide_eq_false c] at w9
    refine ⟨?r8b, ?r9b, ?e8b, ?e9b, ?restb⟩
    case r8b => exact (-1, ci 10, ci 11, ca 32, ca 33, ca 34, ca 35, ca 36, ca 38, ca 39, ca 40, ca 41, ca 42)
    case e8b =>
      unfold mX8_drift
      by_cases q1 : a1 < 0
      · rw [if_pos q1]
      · rw [tI_lt, i_0] at q1
        rw [if_neg (by rw [tI_lt, i_0]; exact q1), if_neg (by rw [tI_lt, i_10]; omega)]
    case e9b =>
      unfold mX9_drift
      rw [w9, Option.bind_some, if_pos (by rw [k0F]; trivial)]
    case restb => exact ⟨rfl, h0⟩
