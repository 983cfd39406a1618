/-! ===== PURE 25: groups by their heads; calls groupOf, member, splits ===== -/
theorem en_cnt {s : Nat → Nat} {P Q : Nat → Bool} {N : Nat} (h : ∀ p, p < N → hdB s p = true → P (ixB s p) = Q p) : ∀ k, k ≤ N → cntB P (ixB s k) = cntB (fun p => hdB s p && Q p) k
  | 0, _ => rfl
  | k + 1, hk => by
    have ih := en_cnt h k (by omega)
    show cntB P (ixB s (k + 1)) = cntB (fun p => hdB s p && Q p) k + (if (hdB s k && Q k) = true then 1 else 0)
    by_cases hd : hdB s k = true
    · rw [ix_succ, if_pos hd, show cntB P (ixB s k + 1) = cntB P (ixB s k) + (if P (ixB s k) = true then 1 else 0) from rfl, ih, h k (by omega) hd, hd, Bool.true_and]
    · rw [ix_succ, if_neg hd, Nat.add_zero, ih, Bool.not_eq_true _ |>.mp hd, Bool.false_and]
      rfl
theorem en_sum {s : Nat → Nat} {f g : Nat → Nat} {N : Nat} (h : ∀ p, p < N → hdB s p = true → f (ixB s p) = g p) : ∀ k, k ≤ N → sumB f (ixB s k) = sumB (fun p => if hdB s p = true then g p else 0) k
  | 0, _ => rfl
  | k + 1, hk => by
    have ih := en_sum h k (by omega)
    rw [ix_succ]
    simp only [sumB]
    cases hd : hdB s k with
    | true =>
      rw [if_pos rfl, if_pos rfl]
      simp only [sumB]
      rw [ih, h k (by omega) hd]
    | false => rw [if_neg (by decide), if_neg (by decide), Nat.add_zero, ih]; rfl
theorem en_fst {s : Nat → Nat} {P Q : Nat → Bool} {N : Nat} (h : ∀ p, p < N → hdB s p = true → P (ixB s p) = Q p) : fstB P (ixB s N) = (fstB (fun p => hdB s p && Q p) N).map (ixB s) := by
  cases e : fstB (fun p => hdB s p && Q p) N with
  | none =>
    have e2 := fstB_none.mp e
    refine fstB_none.mpr (fun g hg => ?_)
    obtain ⟨p, p1, p2, p3⟩ := hd_ex (s := s) (N := N) hg
    have := e2 p p1
    rw [p2, Bool.true_and] at this
    rw [← p3, h p p1 p2, this]
  | some p =>
    have ⟨p1, p2, p3⟩ := fstB_some.mp e
    have ⟨p4, p5⟩ := (Bool.and_eq_true _ _).mp p2
    refine fstB_some.mpr ⟨ix_strict p4 p1, by rw [h p p1 p4]; exact p5, fun g hg => ?_⟩
    have hg2 : g < ixB s N := Nat.lt_trans hg (ix_strict p4 p1)
    obtain ⟨q, q1, q2, q3⟩ := hd_ex (s := s) (N := N) hg2
    have hqp : q < p := by
      refine Nat.lt_of_not_le (fun l => ?_)
      have := ix_mono (s := s) l
      omega
    have := p3 q hqp
    rw [q2, Bool.true_and] at this
    rw [← q3, h q q1 q2, this]
/-- the n-th of a set of groups -/
theorem en_nth {s : Nat → Nat} {P Q : Nat → Bool} {N : Nat} (hN : N ≤ 24) (h : ∀ p, p < N → hdB s p = true → P (ixB s p) = Q p) (n : Int32) :
    fstB (fun k => (mkB P (ixB s N)).testBit k && decide (nI (cntB (mkB P (ixB s N)).testBit k) = n)) 24 = (fstB (fun p => hdB s p && Q p && decide (nI (cntB (fun p => hdB s p && Q p) p) = n)) N).map (ixB s) := by
  have hC : ixB s N ≤ 24 := Nat.le_trans ix_lt hN
  have e1 : fstB (fun k => (mkB P (ixB s N)).testBit k && decide (nI (cntB (mkB P (ixB s N)).testBit k) = n)) 24 = fstB (fun k => P k && decide (nI (cntB P k) = n)) (ixB s N) := by
    have cc : ∀ k, k ≤ ixB s N → cntB (mkB P (ixB s N)).testBit k = cntB P k := fun k hk => cntB_congr (fun i hi => by rw [mkB_bit]; simp [show i < ixB s N by omega])
    cases e : fstB (fun k => P k && decide (nI (cntB P k) = n)) (ixB s N) with
    | none =>
      have e2 := fstB_none.mp e
      refine fstB_none.mpr (fun k hk => ?_)
      by_cases g : k < ixB s N
      · have := e2 k g
        rw [mkB_bit, cc k (by omega), decide_eq_true g, Bool.true_and]
        exact this
      · rw [mkB_bit, decide_eq_false g]; rfl
    | some k =>
      have ⟨k1, k2, k3⟩ := fstB_some.mp e
      refine fstB_some.mpr ⟨by omega, ?_, fun i hi => ?_⟩
      · rw [mkB_bit, cc k (by omega), decide_eq_true k1, Bool.true_and]
        exact k2
      · have := k3 i hi
        rw [mkB_bit, cc i (by omega), decide_eq_true (show i < ixB s N by omega), Bool.true_and]
        exact this
  rw [e1, en_fst (s := s) (Q := fun p => Q p && decide (nI (cntB (fun p => hdB s p && Q p) p) = n)) (N := N) (fun p hp hd => by rw [h p hp hd, en_cnt h p (by omega)])]
  congr 1
  exact fstB_congr (fun k hk => by simp only [Bool.and_assoc])
theorem not_bv : ((-1 : Int32)).toBitVec = BitVec.allOnes 32 := by decide +kernel
theorem nI_bitv {a i : Nat} (hi : i < 32) : (nI a).toBitVec.getLsbD i = a.testBit i := by
  show (BitVec.ofNat 32 a).getLsbD i = _
  rw [BitVec.getLsbD_ofNat]
  simp [hi]
theorem sub_mask {a b : Nat} (ha : a < 2 ^ 31) : (nI a &&& (nI b ^^^ (-1 : Int32)) = 0) = (∀ i, a.testBit i = true → b.testBit i = true) := by
  apply propext
  rw [← Int32.toBitVec_inj]
  constructor
  · intro h i hi
    have hi2 : i < 31 := bit_lt ha hi
    have h2 := congrArg (fun v => BitVec.getLsbD v i) h
    simp only [Int32.toBitVec_and, Int32.toBitVec_xor, not_bv, BitVec.getLsbD_and, BitVec.getLsbD_xor, BitVec.getLsbD_allOnes, nI_bitv (show i < 32 by omega), hi] at h2
    simp [show i < 32 by omega] at h2
    exact h2
  · intro h
    apply BitVec.eq_of_getLsbD_eq
    intro i hi
    simp only [Int32.toBitVec_and, Int32.toBitVec_xor, not_bv, BitVec.getLsbD_and, BitVec.getLsbD_xor, BitVec.getLsbD_allOnes, nI_bitv hi]
    cases ga : a.testBit i with
    | false => simp
    | true => rw [h i ga]; simp [hi]
theorem jw_anti {A : Nat → Nat} {n z : Nat} : jwB A n (z + 1) ≤ jwB A n z := by
  have hr : rad (z + 1) ≤ rad z := by
    unfold rad
    exact Nat.div_le_div_left (Nat.pow_le_pow_right (by omega) (by omega)) (Nat.two_pow_pos z)
  have hr2 : rad (z + 1) * rad (z + 1) ≤ rad z * rad z := Nat.mul_le_mul hr hr
  unfold jwB
  cases e : fstB (fun j => decide (rad z * rad z < A j)) n with
  | none =>
    simp only []
    cases e2 : fstB (fun j => decide (rad (z + 1) * rad (z + 1) < A j)) n with
    | none => exact Nat.le_refl _
    | some j => exact Nat.le_of_lt (fstB_lt e2)
  | some j =>
    have ⟨j1, j2, _⟩ := fstB_some.mp e
    have j3 := of_decide_eq_true j2
    cases e2 : fstB (fun j => decide (rad (z + 1) * rad (z + 1) < A j)) n with
    | none =>
      have := of_decide_eq_false (fstB_none.mp e2 j j1)
      omega
    | some i =>
      have ⟨_, _, i3⟩ := fstB_some.mp e2
      refine Nat.le_of_not_lt (fun g => ?_)
      have := of_decide_eq_false (i3 j g)
      omega
theorem sz_sub {X Y : Nat → Nat} {N z p q : Nat} (hN : N ≤ 24) (hp : p < N) (h : (szB X Y N (z + 1) p).testBit q = true) : (szB X Y N z p).testBit q = true :=
  sm_mono hp _ _ jw_anti (fun i hi => KK_lt hN (by have := jwB_le (AA X Y N) (N - 1) z; omega)) h
/-- a part of the finer zoom is in a part of the coarser one as soon as its head is -/
theorem sz_in {X Y : Nat → Nat} {N z p q : Nat} (hN : N ≤ 24) (hp : p < N) (hq : q < N) : (∀ i, (szB X Y N (z + 1) p).testBit i = true → (szB X Y N z q).testBit i = true) ↔ (szB X Y N z q).testBit p = true := by
  have h1 := szB_part (X := X) (Y := Y) (z := z) hN
  have h2 := szB_part (X := X) (Y := Y) (z := z + 1) hN
  constructor
  · intro h
    exact h p (h2 p hp).1
  · intro h i hi
    have a := sz_sub hN hp hi
    rw [(h1 q hq).2.2 p hp h] at a
    exact a
theorem number9 {F N p : Nat} {s : Nat → Nat} {part : Nat → Int32} (hF : 1000 ≤ F) (hN : N ≤ 24) (hS : PART N s) (h : ∀ p, p < N → part p = nI (s p)) (hp : p < N) : mX9_numberOf F (nI p) part = some (nI (ixB s (lo (s p)))) := by
  have ⟨a, b⟩ := part_24 hN hS hp
  have l := lo_part hN hS hp
  have le := least9s (F := F) hF a b
  unfold mX9_numberOf
  refine lp (fun k => (nI (ixB s k), nI k)) 0 (lo (s p)) _ (by omega) rfl (fun k _ hk => ?_) ?_ (by omega)
  · have f := isFirst9 (F := F) hF hN hS h (show k < N by omega)
    unfold mX9_numberOf_b4
    simp only []
    rw [rdI_n (by omega) (by omega), Option.bind_some, h p hp, le, Option.bind_some, if_neg (show ¬ nI (lo (s p)) ≤ nI k by rw [nI_leE (by omega) (by omega)]; omega), f, Option.bind_some, ix_succ]
    cases e : hdB s k with
    | true => rw [if_neg (by rw [k0T]; exact id), Option.bind_some, nI_1, nI_1]; rfl
    | false => rw [if_pos (by rw [k0F]; trivial), nI_1]; rfl
  · unfold mX9_numberOf_b4
    simp only []
    rw [rdI_n (by omega) (by omega), Option.bind_some, h p hp, le, Option.bind_some, if_pos (by rw [nI_leE (by omega) (by omega)]; omega)]
theorem sub0 {a b : Int32} : (a - b = 0) = (b = a) := by
  apply propext
  constructor
  · intro h
    have := congrArg (· + b) h
    simp only [Int32.sub_add_cancel, Int32.zero_add] at this
    exact this.symm
  · intro h
    rw [h, Int32.sub_self]
theorem sub_1 (a : Int32) (c : Nat) : a - nI c - 1 = a - nI (c + 1) := by
  rw [← nI_1, Int32.sub_sub]
theorem sub_0 (a : Int32) : a - nI 0 = a := by rw [nI_0, Int32.sub_zero]
/-- the set of a group -/
def gsB (N : Nat) (s : Nat → Nat) (g : Int32) : Nat := match fstB (fun p => hdB s p && decide (nI (ixB s p) = g)) N with
  | some p => s p
  | none => 0
theorem groupSet9 {F N z : Nat} {X Y : Nat → Nat} (hF : 1000 ≤ F) (hN : N ≤ 24) (hI : IN N X Y) (hz : z ≤ 10) {aj ap first made one other second wide : Nat → Int32} (h : TR9 X Y N aj ap first made one other second wide) (part : Nat → Int32) (g : Int32) :
    ∃ t, mX9_groupSet F (nI z) g (nI N) made part wide = some (nI (gsB N (szB X Y N z) g), t) ∧ ∀ p, p < N → t p = nI (szB X Y N z p) := by
  obtain ⟨t, e, gt⟩ := laysZoom9 (F := F) hF hN hI hz h part
  have hS := szB_part (X := X) (Y := Y) (z := z) hN
  refine ⟨t, ?_, gt⟩
  unfold mX9_groupSet gsB
  rw [isZoom9, tI_n (by omega), decide_eq_true (by omega), Option.bind_some, if_neg (by rw [k0T]; exact id), e, Option.bind_some]
  generalize szB X Y N z = s at hS gt ⊢
  refine (lpS (fun k => (g - nI (ixB s k), nI k)) (fun p => hdB s p && decide (nI (ixB s p) = g)) N (fun p => (nI (s p), t)) (nI 0, t) (by show _ = (g - nI 0, nI 0); rw [sub_0]; rfl) (fun k hk _ => ?_) (fun _ => ?_) (by omega)).trans ?_
  · have f := isFirst9 (F := F) hF hN hS gt hk
    unfold mX9_groupSet_b20
    simp only []
    rw [if_neg (by rw [nI_leE (by omega) (by omega)]; omega), f, Option.bind_some]
    cases e : hdB s k with
    | true =>
      rw [if_neg (by rw [k0T]; exact id), Bool.true_and]
      by_cases c : nI (ixB s k) = g
      · rw [if_pos (by rw [sub0]; exact c), rdI_n (by omega) (by omega), Option.bind_some, gt k hk, if_pos (decide_eq_true c)]
      · rw [if_neg (by rw [sub0]; exact c), Option.bind_some, sub_1, nI_1, if_neg (by rw [decide_eq_false c]; decide), ix_succ, if_pos e]
    | false =>
      rw [if_pos (by rw [k0F]; trivial), nI_1, Bool.false_and, if_neg (by decide), ix_succ, if_neg (by rw [e]; decide)]
      rfl
  · unfold mX9_groupSet_b20
    simp only []
    rw [if_pos (by rw [nI_leE (by omega) (by omega)]; omega)]
    rfl
  · cases fstB (fun p => hdB s p && decide (nI (ixB s p) = g)) N <;> rfl
/-- a number is a group's, or it isn't -/
theorem gs_or {N : Nat} {s : Nat → Nat} (hN : N ≤ 24) (hS : PART N s) (g : Int32) :
    (∃ p, p < N ∧ hdB s p = true ∧ g = nI (ixB s p) ∧ gsB N s g = s p ∧ 0 ≤ g.toInt ∧ g.toInt < (cntB (hdB s) N : Nat)) ∨ ((g.toInt < 0 ∨ ((cntB (hdB s) N : Nat) : Int) ≤ g.toInt) ∧ gsB N s g = 0) := by
  have hC : cntB (hdB s) N ≤ N := cntB_le _ _
  rcases pt_or g (N := cntB (hdB s) N) (by omega) with ⟨c, hc, rfl⟩ | hg
  · obtain ⟨p, p1, p2, p3⟩ := hd_ex (s := s) hc
    refine Or.inl ⟨p, p1, p2, by rw [p3], ?_, by rw [tI_n (by omega)]; omega, by rw [tI_n (by omega)]; omega⟩
    have e : fstB (fun p => hdB s p && decide (nI (ixB s p) = nI c)) N = some p := by
      refine fstB_some.mpr ⟨p1, by rw [p2, p3]; simp, fun i hi => ?_⟩
      cases hd : hdB s i with
      | false => rfl
      | true =>
        have := ix_strict hd hi
        rw [Bool.true_and]
        refine decide_eq_false (fun q => ?_)
        have := (nI_eq (by have := ix_lt (s := s) (p := i); omega) (by omega)).mp q
        omega
    unfold gsB
    rw [e]
  · refine Or.inr ⟨hg, ?_⟩
    have e : fstB (fun p => hdB s p && decide (nI (ixB s p) = g)) N = none := by
      refine fstB_none.mpr (fun p hp => ?_)
      cases hd : hdB s p with
      | false => rfl
      | true =>
        rw [Bool.true_and]
        refine decide_eq_false (fun q => ?_)
        have a := ix_strict hd hp
        have a2 : ixB s p < cntB (hdB s) N := a
        have b := congrArg Int32.toInt q
        rw [tI_n (by omega)] at b
        omega
    unfold gsB
    rw [e]
theorem call_groupOf {F : Nat} (hF : 5000 ≤ F) : Call_groupOf F INV := by
  intro ca cl ci fr a1 a2 h
  have h0 := h
  obtain ⟨N, M, S, X, Y, W, U, V, Z, ⟨g1, g2, g3, g4, g5, g6⟩, ⟨i8, i9, i15, i2, i3, i18, i19⟩, ⟨r1, r2, r3⟩, h4, h5, h6, h7⟩ := h
  have hN := g1.1
  have p8 := isPoint8 F hN a2
  have p9 := isPoint9 F hN a2
  rcases zm_or a1 with ⟨z, hz, rfl, z1, z2⟩ | hz
  · have zd := decide_eq_true (p := 0 ≤ (nI z).toInt ∧ (nI z).toInt ≤ 10) ⟨z1, z2⟩
    by_cases c : 0 ≤ a2.toInt ∧ a2.toInt < N
    · rw [decide_eq_true c] at p8 p9
      obtain ⟨p, hp, rfl⟩ : ∃ p, p < N ∧ a2 = nI p := (pt_or a2 (N := N) (by omega)).resolve_right (by omega)
      obtain ⟨r, er, gr⟩ := cutZ (F := F) (by omega) g1 r1 h4 hz i8 i9 (ci 11) (ca 38) (ca 39) (ca 40) (ca 41) (ca 42)
      obtain ⟨t, e, g⟩ := laysZoom9 (F := F) (by omega) hN g1.2.1 hz h6 (ca 68)
      have n9 := number9 (F := F) (by omega) hN (szB_part hN) g hp
      refine ⟨?r8, ?r9, ?e8, ?e9, ?rest⟩
      case e8 =>
        unfold mX8_groupOf
        rw [isZoom8, zd, Option.bind_some, if_neg (by rw [k0T]; exact id), er, i9, p8, Option.bind_some, if_neg (by rw [k0T]; exact id), Option.bind_some, rdI_n (by omega) (by omega), Option.bind_some, gr.2.2 p hp]
      case e9 =>
        unfold mX9_groupOf
        rw [isZoom9, zd, Option.bind_some, if_neg (by rw [k0T]; exact id), i15, p9, Option.bind_some, if_neg (by rw [k0T]; exact id), e, Option.bind_some, n9, Option.bind_some]
      case rest => exact ⟨rfl, h0⟩
    · rw [decide_eq_false c] at p8 p9
      refine ⟨?r8b, ?r9b, ?e8b, ?e9b, ?restb⟩
      case e8b =>
        unfold mX8_groupOf
        rw [isZoom8, zd, Option.bind_some, if_neg (by rw [k0T]; exact id), show mX8_isPoint F a2 (ci 9) = some (bI false) by rw [i9]; exact p8, Option.bind_some, if_pos (by rw [k0F]; trivial)]
      case e9b =>
        unfold mX9_groupOf
        rw [isZoom9, zd, Option.bind_some, if_neg (by rw [k0T]; exact id), show mX9_isPoint F a2 (ci 15) = some (bI false) by rw [i15]; exact p9, Option.bind_some, if_pos (by rw [k0F]; trivial)]
      case restb => exact ⟨rfl, h0⟩
  · refine ⟨?r8c, ?r9c, ?e8c, ?e9c, ?restc⟩
    case e8c =>
      unfold mX8_groupOf
      rw [isZoom8, decide_eq_false hz, Option.bind_some, if_pos (by rw [k0F]; trivial)]
    case e9c =>
      unfold mX9_groupOf
      rw [isZoom9, decide_eq_false hz, Option.bind_some, if_pos (by rw [k0F]; trivial)]
    case restc => exact ⟨rfl, h0⟩
