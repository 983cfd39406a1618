/-! ===== out of whole's pure parts ===== -/
theorem sz_sub {X Y : Nat → Nat} {N z p q : Nat} (hN : N ≤ 24) (hp : p < N) (h : (szB X Y N (z + 1) p).testBit q = true) : (szB X Y N z p).testBit q = true :=
  sm_mono hp _ _ jw_anti (fun i hi => KK_lt hN (by have := jwB_le (AA X Y N) (N - 1) z; omega)) h
/-- a part of the finer zoom is in a part of the coarser one as soon as its head is -/
theorem sz_in {X Y : Nat → Nat} {N z p q : Nat} (hN : N ≤ 24) (hp : p < N) (hq : q < N) : (∀ i, (szB X Y N (z + 1) p).testBit i = true → (szB X Y N z q).testBit i = true) ↔ (szB X Y N z q).testBit p = true := by
  have h1 := szB_part (X := X) (Y := Y) (z := z) hN
  have h2 := szB_part (X := X) (Y := Y) (z := z + 1) hN
  constructor
  · intro h
    exact h p (h2 p hp).1
  · intro h i hi
    have a := sz_sub hN hp hi
    rw [(h1 q hq).2.2 p hp h] at a
    exact a
/-- the set of a group -/
def gsB (N : Nat) (s : Nat → Nat) (g : Int32) : Nat := match fstB (fun p => hdB s p && decide (nI (ixB s p) = g)) N with
  | some p => s p
  | none => 0
/-- a number is a group's, or it isn't -/
theorem gs_or {N : Nat} {s : Nat → Nat} (hN : N ≤ 24) (hS : PART N s) (g : Int32) :
    (∃ p, p < N ∧ hdB s p = true ∧ g = nI (ixB s p) ∧ gsB N s g = s p ∧ 0 ≤ g.toInt ∧ g.toInt < (cntB (hdB s) N : Nat)) ∨ ((g.toInt < 0 ∨ ((cntB (hdB s) N : Nat) : Int) ≤ g.toInt) ∧ gsB N s g = 0) := by
  have hC : cntB (hdB s) N ≤ N := cntB_le _ _
  rcases pt_or g (N := cntB (hdB s) N) (by omega) with ⟨c, hc, rfl⟩ | hg
  · obtain ⟨p, p1, p2, p3⟩ := hd_ex (s := s) hc
    refine Or.inl ⟨p, p1, p2, by rw [p3], ?_, by rw [tI_n (by omega)]; omega, by rw [tI_n (by omega)]; omega⟩
    have e : fstB (fun p => hdB s p && decide (nI (ixB s p) = nI c)) N = some p := by
      refine fstB_some.mpr ⟨p1, by rw [p2, p3]; simp, fun i hi => ?_⟩
      cases hd : hdB s i with
      | false => rfl
      | true =>
        have := ix_strict hd hi
        rw [Bool.true_and]
        refine decide_eq_false (fun q => ?_)
        have := (nI_eq (by have := ix_lt (s := s) (p := i); omega) (by omega)).mp q
        omega
    unfold gsB
    rw [e]
  · refine Or.inr ⟨hg, ?_⟩
    have e : fstB (fun p => hdB s p && decide (nI (ixB s p) = g)) N = none := by
      refine fstB_none.mpr (fun p hp => ?_)
      cases hd : hdB s p with
      | false => rfl
      | true =>
        rw [Bool.true_and]
        refine decide_eq_false (fun q => ?_)
        have a := ix_strict hd hp
        have a2 : ixB s p < cntB (hdB s) N := a
        have b := congrArg Int32.toInt q
        rw [tI_n (by omega)] at b
        omega
    unfold gsB
    rw [e]
theorem cuts8 {F N z : Nat} {X Y W : Nat → Nat} {aparts fs firsts ja os parts pa roots seconds ws pxs pys : Nat → Int32} {pairs : Nat → Int64} {oc pc : Int32} (hF : 1000 ≤ F) (gd : GOOD N X Y W) (hP : ROWS N X Y W ws pxs pys) (h : TR2 X Y N aparts fs firsts ja os parts pa roots seconds pairs) (hz : z ≤ 10) (hoc : oc = nI (N - 1)) (hpc : pc = nI N) (g cnt : Int32) (groupAt sets weights xs ys : Nat → Int32) :
    ∃ r, mX8_cutsGroup F (nI z) g oc pc cnt aparts parts ws pxs pys groupAt sets weights xs ys = some (bI (decide (0 ≤ g.toInt ∧ g.toInt < (cntB (hdB (szB X Y N z)) N : Nat))), r) ∧ SCALE N (szB X Y N z) X Y W r.1 r.2.1 r.2.2.1 r.2.2.2.1 r.2.2.2.2.1 r.2.2.2.2.2 := by
  obtain ⟨r, e, gr⟩ := cutZ (F := F) hF gd hP h hz hoc hpc cnt groupAt sets weights xs ys
  refine ⟨r, ?_, gr⟩
  have hC : cntB (hdB (szB X Y N z)) N ≤ N := cntB_le _ _
  have hN := gd.1
  unfold mX8_cutsGroup
  rw [isZoom8, tI_n (by omega), decide_eq_true (by omega), Option.bind_some, if_neg (by rw [k0T]; exact id), e, Option.bind_some]
  by_cases h1 : g < 0
  · have h2 := tI_lt.mp h1
    rw [i_0] at h2
    rw [if_pos h1, decide_eq_false (by omega)]
    rfl
  · have h2 : ¬ g.toInt < 0 := fun q => h1 (tI_lt.mpr (by rw [i_0]; exact q))
    rw [if_neg h1, gr.1]
    by_cases h3 : nI (cntB (hdB (szB X Y N z)) N) ≤ g
    · have h4 := tI_le.mp h3
      rw [tI_n (by omega)] at h4
      rw [if_pos h3, decide_eq_false (by omega), ← gr.1]
      rfl
    · have h4 : ¬ ((cntB (hdB (szB X Y N z)) N : Nat) : Int) ≤ g.toInt := fun q => h3 (tI_le.mpr (by rw [tI_n (by omega)]; exact q))
      rw [if_neg h3, decide_eq_true (by omega), ← gr.1]
      rfl
theorem fst_cut {m N : Nat} {Q : Nat → Bool} (hm : m < 2 ^ N) (hN : N ≤ 24) : fstB (fun k => m.testBit k && Q k) 24 = fstB (fun k => m.testBit k && Q k) N := by
  cases e : fstB (fun k => m.testBit k && Q k) N with
  | none =>
    refine fstB_none.mpr (fun k _ => ?_)
    by_cases g : k < N
    · exact fstB_none.mp e k g
    · cases b : m.testBit k with
      | false => rfl
      | true => exact absurd (bit_lt hm b) g
  | some k =>
    have ⟨k1, k2, k3⟩ := fstB_some.mp e
    exact fstB_some.mpr ⟨by omega, k2, k3⟩
/-- the groups of the finer scale in a set -/
theorem within5 {F N m : Nat} {s X Y W : Nat → Nat} {cnt : Int32} {groupAt sets weights xs ys : Nat → Int32} {Q : Nat → Bool} (hF : 1000 ≤ F) (hN : N ≤ 24) (hS : PART N s) (h : SCALE N s X Y W cnt groupAt sets weights xs ys)
    (hQ : ∀ p, p < N → hdB s p = true → ((∀ i, (s p).testBit i = true → m.testBit i = true) ↔ Q p = true)) :
    ∃ P, mX5_groupsWithin F (nI m) cnt sets = some (nI (mkB P (ixB s N))) ∧ ∀ p, p < N → hdB s p = true → P (ixB s p) = Q p := by
  have hC : ixB s N ≤ N := ix_lt
  have hc : cnt = nI (ixB s N) := h.1
  have hP : ∀ p, p < N → hdB s p = true → decide (sets (ixB s p) &&& (nI m ^^^ (-1 : Int32)) = 0) = Q p := fun p hp hd => by
    have ⟨q24, q0⟩ := part_24 hN hS hp
    rw [(h.2.1 p hp hd).1]
    cases e : Q p with
    | true => exact decide_eq_true (by rw [sub_mask (by omega)]; exact (hQ p hp hd).mpr e)
    | false => exact decide_eq_false (by rw [sub_mask (by omega)]; intro q; have := (hQ p hp hd).mp q; rw [e] at this; cases this)
  refine ⟨fun g => decide (sets g &&& (nI m ^^^ (-1 : Int32)) = 0), ?_, hP⟩
  unfold mX5_groupsWithin
  rw [hc]
  refine lp (fun k => (nI (mkB (fun g => decide (sets g &&& (nI m ^^^ (-1 : Int32)) = 0)) k), nI k)) 0 (ixB s N) _ (by omega) rfl (fun k _ hk => ?_) ?_ (by omega)
  · unfold mX5_groupsWithin_b4
    simp only []
    rw [if_neg (by rw [nI_leE (by omega) (by omega)]; omega), rdI_n (by omega) (by omega), Option.bind_some]
    by_cases c : sets k &&& (nI m ^^^ (-1 : Int32)) = 0
    · rw [if_pos c, setbit (mk_lt31 _ (by omega)) (by omega), Option.bind_some, nI_1]
      simp only [mkB]
      rw [if_pos (decide_eq_true c)]
    · rw [if_neg c, nI_1]
      simp only [mkB]
      rw [if_neg (by rw [decide_eq_false c]; decide)]
  · unfold mX5_groupsWithin_b4
    simp only []
    rw [if_pos (by rw [nI_leE (by omega) (by omega)]; omega)]
/-- whether a head is in a set -/
def inQ (m : Nat) (s : Nat → Nat) (p : Nat) : Bool := hdB s p && m.testBit p
theorem cnt_mk {P : Nat → Bool} {C : Nat} : ∀ n, C ≤ n → cntB (mkB P C).testBit n = cntB P C
  | 0, h => by rw [show C = 0 by omega]; rfl
  | n + 1, h => by
    rcases Nat.eq_or_lt_of_le h with e | e
    · rw [e]
      exact cntB_congr (fun i hi => by rw [mkB_bit, decide_eq_true hi, Bool.true_and])
    · have ih := cnt_mk (P := P) (C := C) n (by omega)
      show cntB (mkB P C).testBit n + (if (mkB P C).testBit n = true then 1 else 0) = _
      rw [ih, mkB_bit, decide_eq_false (show ¬ n < C by omega), Bool.false_and]
      rfl
theorem bits_en {N : Nat} {s : Nat → Nat} {P Q : Nat → Bool} (hN : N ≤ 24) (hP : ∀ p, p < N → hdB s p = true → P (ixB s p) = Q p) : bitCnt (nI (mkB P (ixB s N))) = nI (cntB (fun p => hdB s p && Q p) N) := by
  have hC : ixB s N ≤ N := ix_lt
  rw [bitCnt_n (Nat.lt_of_lt_of_le (mkB_lt P _) (Nat.pow_le_pow_right (by omega) (by omega))), cnt_mk 24 (by omega), en_cnt hP N (Nat.le_refl _)]
/-- as many different numbers below m are at most m -/
theorem pigeon {f : Nat → Nat} {n m : Nat} (h1 : ∀ i, i < n → f i < m) (h2 : ∀ i j, i < j → j < n → f i ≠ f j) : n ≤ m := by
  have e1 : sumB (fun i => sumB (fun v => if v = f i then 1 else 0) m) n = sumB (fun _ => 1) n := sumB_congr (fun i hi => by
    have s := sum_one (B := fun v => v) (b := f i) (c := 1) (m := m) (fun i j h _ => Nat.ne_of_lt h)
    rw [if_pos (hpB_iff.mpr ⟨f i, h1 i hi, rfl⟩)] at s
    exact s)
  have e2 : sumB (fun v => sumB (fun i => if v = f i then 1 else 0) n) m ≤ m * 1 := sumB_le (fun v hv => by
    have s := sum_one (B := f) (b := v) (c := 1) (m := n) h2
    have t : sumB (fun i => if v = f i then 1 else 0) n = sumB (fun k => if f k = v then 1 else 0) n := sumB_congr (fun k _ => by
      by_cases q : f k = v
      · rw [if_pos q, if_pos q.symm]
      · rw [if_neg q, if_neg (fun g => q g.symm)])
    rw [t, s]
    by_cases q : hpB f v n = true
    · rw [if_pos q]; omega
    · rw [if_neg q]; omega)
  have e3 : ∀ k, sumB (fun _ => 1) k = k := by
    intro k
    induction k with
    | zero => rfl
    | succ k ih => simp only [sumB]; rw [ih]
  rw [sumB_swap] at e1
  rw [e1, e3] at e2
  omega
