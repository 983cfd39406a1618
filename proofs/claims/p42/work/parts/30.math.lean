/-! ===== p42: groups nest, what is counted sums up ===== -/
theorem m_ensum {t : Nat → Bool} {f g : Nat → Nat} {N : Nat} (h : ∀ q, q < N → t q = true → f (cntB t q) = g q) : ∀ k, k ≤ N → sumB f (cntB t k) = sumB (fun q => if t q = true then g q else 0) k
  | 0, _ => rfl
  | k + 1, hk => by
    have ih := m_ensum h k (by omega)
    show sumB f (cntB t k + (if t k = true then 1 else 0)) = sumB (fun q => if t q = true then g q else 0) k + (if t k = true then g k else 0)
    by_cases c : t k = true
    · rw [if_pos c, if_pos c, ← ih, ← h k (by omega) c]
      rfl
    · rw [if_neg c, if_neg c]
      exact ih
theorem m_nth {t : Nat → Bool} : ∀ {N i : Nat}, i < cntB t N → ∃ q, q < N ∧ t q = true ∧ cntB t q = i
  | 0, i, h => absurd h (Nat.not_lt_zero _)
  | N + 1, i, h => by
    by_cases c : i < cntB t N
    · obtain ⟨q, a, b, d⟩ := m_nth c
      exact ⟨q, by omega, b, d⟩
    · have h2 : i < cntB t N + (if t N = true then 1 else 0) := h
      by_cases e : t N = true
      · rw [if_pos e] at h2
        exact ⟨N, by omega, e, by omega⟩
      · rw [if_neg e] at h2
        omega
theorem m_mono {t : Nat → Bool} {a : Nat} : ∀ {b : Nat}, a ≤ b → cntB t a ≤ cntB t b
  | 0, h => by
    have e : a = 0 := by omega
    rw [e]
    exact Nat.le_refl _
  | b + 1, h => by
    by_cases e : a = b + 1
    · rw [e]
      exact Nat.le_refl _
    · exact Nat.le_trans (m_mono (b := b) (by omega)) (Nat.le_add_right _ _)
theorem m_lt {t : Nat → Bool} {q N : Nat} (hq : q < N) (h : t q = true) : cntB t q < cntB t N := by
  have a : cntB t (q + 1) ≤ cntB t N := m_mono (by omega)
  have b : cntB t (q + 1) = cntB t q + (if t q = true then 1 else 0) := rfl
  rw [if_pos h] at b
  omega
theorem m_two {t : Nat → Bool} {a b n : Nat} (hab : a < b) (hb : b < n) (h1 : t a = true) (h2 : t b = true) : 2 ≤ cntB t n := by
  have x := m_lt hab h1
  have y := m_lt hb h2
  omega
/-- the i-th of those of which t holds, as the class finds it -/
theorem m_find {t : Nat → Bool} {N i : Nat} (hN : N ≤ 24) (h : i < cntB t N) : ∃ q, q < N ∧ t q = true ∧ cntB t q = i ∧ fstB (fun k => t k && decide (nI (cntB t k) = nI i)) N = some q := by
  obtain ⟨q, a, b, d⟩ := m_nth h
  refine ⟨q, a, b, d, fstB_some.mpr ⟨a, ?_, fun j hj => ?_⟩⟩
  · rw [b, d]
    exact decide_eq_true rfl
  · by_cases e : t j = true
    · have x := m_lt hj e
      have y := cntB_le t j
      have y2 := cntB_le t q
      rw [e, Bool.true_and]
      exact decide_eq_false (fun f => by
        have := (nI_eq (by omega) (by omega)).mp f
        omega)
    · rw [Bool.not_eq_true _ |>.mp e, Bool.false_and]
theorem m_none {t : Nat → Bool} {N : Nat} (hN : N ≤ 24) : fstB (fun k => t k && decide (nI (cntB t k) = nI (cntB t N))) N = none := by
  refine fstB_none.mpr (fun k hk => ?_)
  by_cases e : t k = true
  · have x := m_lt hk e
    have y := cntB_le t k
    have y2 := cntB_le t N
    rw [e, Bool.true_and]
    exact decide_eq_false (fun f => by
      have := (nI_eq (by omega) (by omega)).mp f
      omega)
  · rw [Bool.not_eq_true _ |>.mp e, Bool.false_and]
theorem m_pick {c v : Nat} : ∀ N, sumB (fun p => if c = p then v else 0) N = if c < N then v else 0
  | 0 => (if_neg (Nat.not_lt_zero _)).symm
  | N + 1 => by
    show sumB (fun p => if c = p then v else 0) N + (if c = N then v else 0) = _
    rw [m_pick N]
    by_cases a : c < N
    · rw [if_pos a, if_neg (show ¬ c = N by omega), if_pos (show c < N + 1 by omega), Nat.add_zero]
    · by_cases b : c = N
      · rw [if_neg a, if_pos b, if_pos (show c < N + 1 by omega), Nat.zero_add]
      · rw [if_neg a, if_neg b, if_neg (show ¬ c < N + 1 by omega)]
theorem m_ones : ∀ N, sumB (fun _ => 1) N = N
  | 0 => rfl
  | N + 1 => by
    show sumB (fun _ => 1) N + 1 = N + 1
    rw [m_ones N]
/-- what is summed up over the parts is the sum over all -/
theorem m_parts {N : Nat} {s : Nat → Nat} (hN : N ≤ 24) (hS : PART N s) (f : Nat → Nat) : sumB (fun p => if hdB s p = true then sumB (fun q => if (s p).testBit q = true then f q else 0) N else 0) N = sumB f N := by
  have e1 : ∀ p, p < N → (if hdB s p = true then sumB (fun q => if (s p).testBit q = true then f q else 0) N else 0) = sumB (fun q => if lo (s q) = p then f q else 0) N := by
    intro p hp
    by_cases h : hdB s p = true
    · rw [if_pos h]
      refine sumB_congr (fun q hq => ?_)
      rw [hd_in hN hS hp hq h]
      by_cases c : lo (s q) = p
      · rw [decide_eq_true c, if_pos rfl, if_pos c]
      · rw [decide_eq_false c, if_neg (by decide), if_neg c]
    · rw [if_neg h]
      refine Eq.symm ((sumB_congr (g := fun _ => 0) (fun q hq => if_neg (fun c => h (by rw [← c]; exact hd_lo hN hS hq)))).trans (sumB_0 N))
  refine (sumB_congr e1).trans ((sumB_swap (f := fun p q => if lo (s q) = p then f q else 0) N).trans (sumB_congr (fun q hq => ?_)))
  show sumB (fun p => if lo (s q) = p then f q else 0) N = f q
  rw [m_pick N, if_pos (lo_part hN hS hq).1]
theorem m_cut {m N : Nat} (hm : m < 2 ^ N) : ∀ n, N ≤ n → cntB m.testBit n = cntB m.testBit N
  | 0, h => by
    have e : N = 0 := by omega
    rw [e]
  | n + 1, h => by
    by_cases e : N = n + 1
    · rw [e]
    · have a := m_cut hm n (by omega)
      have b : m.testBit n = false := by
        cases c : m.testBit n with
        | false => rfl
        | true => exact absurd (bit_lt hm c) (by omega)
      show cntB m.testBit n + (if m.testBit n = true then 1 else 0) = _
      rw [b, a, if_neg (by decide), Nat.add_zero]
theorem m_size {m N : Nat} (hm : m < 2 ^ N) (hN : N ≤ 24) : cntB m.testBit 24 = sumB (fun q => if m.testBit q = true then 1 else 0) N := by
  rw [m_cut hm 24 hN, cntB_sum]
theorem m_sizes {N : Nat} {s : Nat → Nat} (hN : N ≤ 24) (hS : PART N s) : sumB (fun p => if hdB s p = true then cntB (s p).testBit 24 else 0) N = N := by
  refine (sumB_congr (g := fun p => if hdB s p = true then sumB (fun q => if (s p).testBit q = true then (fun _ => 1) q else 0) N else 0) (fun p hp => ?_)).trans ((m_parts hN hS (fun _ => 1)).trans (m_ones N))
  rw [m_size (hS p hp).2.1 hN]
theorem m_weights {N : Nat} {s W : Nat → Nat} (hN : N ≤ 24) (hS : PART N s) : sumB (fun p => if hdB s p = true then wtB W (s p) N else 0) N = sumB W N := m_parts hN hS W
theorem m_all {N : Nat} {W : Nat → Nat} : wtB W (2 ^ N - 1) N = sumB W N := by
  unfold wtB
  refine sumB_congr (fun i hi => ?_)
  rw [Nat.testBit_two_pow_sub_one, decide_eq_true hi, if_pos rfl]
theorem m_splits {N : Nat} {s u : Nat → Nat} (hN : N ≤ 24) (hS : PART N s) : sumB (fun p => if hdB s p = true then cntB (inQ (s p) u) N else 0) N = cntB (hdB u) N := by
  rw [cntB_sum (hdB u) N]
  refine (sumB_congr (g := fun p => if hdB s p = true then sumB (fun q => if (s p).testBit q = true then (fun q => if hdB u q = true then 1 else 0) q else 0) N else 0) (fun p hp => ?_)).trans (m_parts hN hS (fun q => if hdB u q = true then 1 else 0))
  have e : cntB (inQ (s p) u) N = sumB (fun q => if (s p).testBit q = true then (fun q => if hdB u q = true then 1 else 0) q else 0) N := by
    rw [cntB_sum]
    refine sumB_congr (fun q hq => ?_)
    show (if (hdB u q && (s p).testBit q) = true then 1 else 0) = if (s p).testBit q = true then (if hdB u q = true then 1 else 0) else 0
    cases (s p).testBit q <;> cases hdB u q <;> rfl
  rw [e]
/-- within one part of a coarser cut all points of a finer part are alike -/
theorem m_like {N : Nat} {X Y : Nat → Nat} {z p q r : Nat} (hN : N ≤ 24) (hp : p < N) (hq : q < N) (hr : r < N) (h : (szB X Y N (z + 1) q).testBit r = true) : (szB X Y N z p).testBit r = (szB X Y N z p).testBit q := by
  have hS := szB_part (X := X) (Y := Y) (z := z) hN
  have a := sz_sub hN hq h
  have b := (hS q hq).2.2 r hr a
  cases c : (szB X Y N z p).testBit q with
  | true =>
    have d := (hS p hp).2.2 q hq c
    rw [← d]
    exact a
  | false =>
    cases e : (szB X Y N z p).testBit r with
    | false => rfl
    | true =>
      have d := (hS p hp).2.2 r hr e
      rw [← d, b] at c
      rw [(hS q hq).1] at c
      cases c
theorem m_sub {N : Nat} {X Y W : Nat → Nat} {z p : Nat} (hN : N ≤ 24) (hp : p < N) : sumB (fun q => if inQ (szB X Y N z p) (szB X Y N (z + 1)) q = true then wtB W (szB X Y N (z + 1) q) N else 0) N = wtB W (szB X Y N z p) N := by
  have hS := szB_part (X := X) (Y := Y) (z := z + 1) hN
  refine Eq.trans ?_ (m_parts hN hS (fun r => if (szB X Y N z p).testBit r = true then W r else 0))
  refine sumB_congr (fun q hq => ?_)
  show (if (hdB (szB X Y N (z + 1)) q && (szB X Y N z p).testBit q) = true then wtB W (szB X Y N (z + 1) q) N else 0) = if hdB (szB X Y N (z + 1)) q = true then sumB (fun r => if (szB X Y N (z + 1) q).testBit r = true then (if (szB X Y N z p).testBit r = true then W r else 0) else 0) N else 0
  cases h : hdB (szB X Y N (z + 1)) q with
  | false => rfl
  | true =>
    rw [if_pos rfl, Bool.true_and]
    cases m : (szB X Y N z p).testBit q with
    | true =>
      rw [if_pos rfl]
      unfold wtB
      refine sumB_congr (fun r hr => ?_)
      by_cases c : (szB X Y N (z + 1) q).testBit r = true
      · rw [if_pos c, if_pos c, m_like hN hp hq hr c, m, if_pos rfl]
      · rw [if_neg c, if_neg c]
    | false =>
      rw [if_neg (by decide)]
      refine Eq.symm ((sumB_congr (g := fun _ => 0) (fun r hr => ?_)).trans (sumB_0 N))
      by_cases c : (szB X Y N (z + 1) q).testBit r = true
      · rw [if_pos c, m_like hN hp hq hr c, m, if_neg (by decide)]
      · rw [if_neg c]
/-- a point of a finer part in a coarser one -/
theorem m_mem {N : Nat} {X Y : Nat → Nat} {z p q r : Nat} (hN : N ≤ 24) (hp : p < N) (hq : q < N) (hr : r < N) (hd : hdB (szB X Y N z) p = true) (h1 : (szB X Y N z p).testBit q = true) (h2 : (szB X Y N (z + 1) q).testBit r = true) : lo (szB X Y N z r) = p := by
  have hS := szB_part (X := X) (Y := Y) (z := z) hN
  have a := m_like (p := p) hN hp hq hr h2
  rw [h1] at a
  rw [(hS p hp).2.2 r hr a]
  exact of_decide_eq_true hd
theorem m_bit {p : Nat} (hp : p < 24) : cntB (2 ^ p).testBit 24 = 1 := by
  rw [cntB_sum]
  refine (sumB_congr (g := fun k => if p = k then 1 else 0) (fun k hk => ?_)).trans ((m_pick 24).trans (if_pos hp))
  rw [Nat.testBit_two_pow]
  by_cases c : p = k
  · rw [decide_eq_true c, if_pos rfl, if_pos c]
  · rw [decide_eq_false c, if_neg (by decide), if_neg c]
theorem m_jw {A : Nat → Nat} {n z j : Nat} (h : j < jwB A n z) : A j ≤ rad z * rad z := by
  unfold jwB at h
  cases e : fstB (fun j => decide (rad z * rad z < A j)) n with
  | none =>
    rw [e] at h
    have := of_decide_eq_false (fstB_none.mp e j h)
    omega
  | some k =>
    rw [e] at h
    have := of_decide_eq_false ((fstB_some.mp e).2.2 j h)
    omega
/-- the join that made a group -/
theorem m_maker {N : Nat} {X Y : Nat → Nat} {z p : Nat} (hN : N ≤ 24) (hp : p < N) :
    (mkrB (fP (KK X Y N)) (fQ (KK X Y N)) (szB X Y N z p) (N - 1) = none ∧ cntB (szB X Y N z p).testBit 24 = 1) ∨
    ∃ j, j < N - 1 ∧ mkrB (fP (KK X Y N)) (fQ (KK X Y N)) (szB X Y N z p) (N - 1) = some j ∧ 2 ≤ cntB (szB X Y N z p).testBit 24 ∧ pmB (fP (KK X Y N)) (fQ (KK X Y N)) j = szB X Y N z p ∧ AA X Y N j ≤ rad z * rad z := by
  have hjw := jwB_le (AA X Y N) (N - 1) z
  have two : ∀ j, j < N - 1 → 2 ≤ cntB (pmB (fP (KK X Y N)) (fQ (KK X Y N)) j).testBit 24 := fun j hj => by
    have hS := sm_part (P := fP (KK X Y N)) (Q := fQ (KK X Y N)) (N := N) j (fun i hi => KK_lt hN (by omega))
    have ⟨a, b⟩ := KK_PQ (X := X) (Y := Y) hN hj
    exact m_two a (by omega) (pm_a hS (by omega)) (pm_b hS b)
  have e := sm_last (P := fP (KK X Y N)) (Q := fQ (KK X Y N)) (p := p) (jwB (AA X Y N) (N - 1) z)
  have es : szB X Y N z p = smB (fP (KK X Y N)) (fQ (KK X Y N)) (jwB (AA X Y N) (N - 1) z) p := rfl
  rw [← es] at e
  cases l : lstB (fun j => (pmB (fP (KK X Y N)) (fQ (KK X Y N)) j).testBit p) (jwB (AA X Y N) (N - 1) z) with
  | none =>
    rw [l] at e
    have e2 : szB X Y N z p = 2 ^ p := e
    refine Or.inl ⟨?_, by rw [e2]; exact m_bit (by omega)⟩
    refine fstB_none.mpr (fun j hj => decide_eq_false (fun q => ?_))
    have t := two j hj
    rw [q, e2, m_bit (by omega)] at t
    omega
  | some j =>
    rw [l] at e
    have e2 : szB X Y N z p = pmB (fP (KK X Y N)) (fQ (KK X Y N)) j := e
    have ⟨j1, j2, j3⟩ := lstB_some.mp l
    cases f : mkrB (fP (KK X Y N)) (fQ (KK X Y N)) (szB X Y N z p) (N - 1) with
    | none => exact absurd e2.symm (of_decide_eq_false (fstB_none.mp f j (by omega)))
    | some k =>
      have ⟨k1, k2, k3⟩ := fstB_some.mp f
      have k4 : pmB (fP (KK X Y N)) (fQ (KK X Y N)) k = szB X Y N z p := of_decide_eq_true k2
      have kj : k ≤ j := Nat.not_lt.mp (fun q => of_decide_eq_false (k3 j q) e2.symm)
      refine Or.inr ⟨k, k1, rfl, ?_, k4, m_jw (Nat.lt_of_le_of_lt kj j1)⟩
      rw [← k4]
      exact two k k1
theorem m_gr {X Y : Nat → Nat} {N z : Nat} (hN : N ≤ 24) : grN X Y N z ≤ grN X Y N (z + 1) := by
  unfold grN
  rw [szB_cnt hN, szB_cnt hN]
  have := jw_anti (A := AA X Y N) (n := N - 1) (z := z)
  omega
/-! one map in another -/
theorem m_low {f g : Nat → Nat} {n m : Nat} (hf : ∀ i j, i < j → j < n → f i < f j) (hg : ∀ i j, i < j → j < m → g i < g j) (h : ∀ i, i < n → ∃ j, j < m ∧ f i = g j) : ∀ i, i < n → ∀ j, j < m → f i = g j → i ≤ j
  | 0, _, _, _, _ => Nat.zero_le _
  | i + 1, hi, j, hj, e => by
    obtain ⟨k, k1, k2⟩ := h i (by omega)
    have a := m_low hf hg h i (by omega) k k1 k2
    have b := hf i (i + 1) (by omega) hi
    rw [k2, e] at b
    rcases Nat.lt_trichotomy k j with c | c | c
    · omega
    · rw [c] at b
      omega
    · have := hg j k c k1
      omega
theorem m_high {f g : Nat → Nat} {n : Nat} (hf : ∀ i j, i < j → j < n → f i < f j) (hg : ∀ i j, i < j → j < n → g i < g j) (h : ∀ i, i < n → ∃ j, j < n ∧ f i = g j) : ∀ d i, i + d + 1 = n → ∀ j, j < n → f i = g j → j ≤ i
  | 0, i, hi, j, hj, _ => by omega
  | d + 1, i, hi, j, hj, e => by
    obtain ⟨k, k1, k2⟩ := h (i + 1) (by omega)
    have a := m_high hf hg h d (i + 1) (by omega) k k1 k2
    have b := hf i (i + 1) (by omega) (by omega)
    rw [k2, e] at b
    rcases Nat.lt_trichotomy j k with c | c | c
    · omega
    · rw [c] at b
      omega
    · have := hg k j c hj
      omega
def SUB (N : Nat) (X Y W : Nat → Nat) (K : Nat) (U V Z : Nat → Nat) : Prop := ∀ i, i < K → ∃ j, j < N ∧ U i = X j ∧ V i = Y j ∧ Z i = W j
theorem sub_pl {N K : Nat} {X Y W U V Z : Nat → Nat} (h : SUB N X Y W K U V Z) : ∀ i, i < K → ∃ j, j < N ∧ plB U V i = plB X Y j := fun i hi => by
  obtain ⟨j, a, b, c, _⟩ := h i hi
  exact ⟨j, a, by unfold plB; rw [b, c]⟩
theorem sub_eq {N : Nat} {X Y W U V Z : Nat → Nat} (g1 : OKM N X Y W) (g2 : OKM N U V Z) (h : SUB N X Y W N U V Z) : U = X ∧ V = Y ∧ Z = W := by
  have hf : ∀ i j, i < j → j < N → plB U V i < plB U V j := fun i j a b => good_pl g2.1 a b
  have hg : ∀ i j, i < j → j < N → plB X Y i < plB X Y j := fun i j a b => good_pl g1.1 a b
  have key : ∀ i, i < N → U i = X i ∧ V i = Y i ∧ Z i = W i := fun i hi => by
    obtain ⟨j, a, b, c, d⟩ := h i hi
    have e : plB U V i = plB X Y j := by unfold plB; rw [b, c]
    have x := m_low hf hg (sub_pl h) i hi j a e
    have y := m_high hf hg (sub_pl h) (N - 1 - i) i (by omega) j a e
    have ej : j = i := by omega
    rw [ej] at b c d
    exact ⟨b, c, d⟩
  refine ⟨?_, ?_, ?_⟩
  · rw [← g2.2.1, ← g1.2.1]
    funext i
    unfold cutN
    by_cases c : i < N
    · rw [if_pos c, if_pos c]; exact (key i c).1
    · rw [if_neg c, if_neg c]
  · rw [← g2.2.2.1, ← g1.2.2.1]
    funext i
    unfold cutN
    by_cases c : i < N
    · rw [if_pos c, if_pos c]; exact (key i c).2.1
    · rw [if_neg c, if_neg c]
  · rw [← g2.2.2.2, ← g1.2.2.2]
    funext i
    unfold cutN
    by_cases c : i < N
    · rw [if_pos c, if_pos c]; exact (key i c).2.2
    · rw [if_neg c, if_neg c]
/-- a map with fewer points lacks one -/
theorem sub_lack {N K : Nat} {X Y W U V Z : Nat → Nat} (g1 : GOOD N X Y W) (g2 : GOOD K U V Z) (hK : K < N) (h : ∀ w, w < N → ∃ j, j < K ∧ U j = X w ∧ V j = Y w) : False := by
  have hf : ∀ i j, i < j → j < N → plB X Y i < plB X Y j := fun i j a b => good_pl g1 a b
  have hg : ∀ i j, i < j → j < K → plB U V i < plB U V j := fun i j a b => good_pl g2 a b
  have hh : ∀ i, i < N → ∃ j, j < K ∧ plB X Y i = plB U V j := fun i hi => by
    obtain ⟨j, a, b, c⟩ := h i hi
    exact ⟨j, a, by unfold plB; rw [b, c]⟩
  obtain ⟨j, a, b⟩ := hh (N - 1) (by omega)
  have := m_low hf hg hh (N - 1) (by omega) j a b
  omega
theorem at_some {N x y : Nat} {X Y : Nat → Nat} {j : Nat} (h : atB N X Y x y = some j) : j < N ∧ X j = x ∧ Y j = y := by
  have ⟨a, b, _⟩ := fstB_some.mp h
  have ⟨c, d⟩ := (Bool.and_eq_true _ _).mp b
  exact ⟨a, of_decide_eq_true c, of_decide_eq_true d⟩
theorem at_none {N x y : Nat} {X Y : Nat → Nat} (h : atB N X Y x y = none) : ∀ p, p < N → ¬ (X p = x ∧ Y p = y) := fun p hp q => by
  have a := fstB_none.mp h p hp
  rw [decide_eq_true q.1, decide_eq_true q.2] at a
  cases a
theorem sub_ins {N K a b w i : Nat} {X Y W U V Z : Nat → Nat} (h : SUB N X Y W K U V Z) {p : Nat} (hp : p < N) (e1 : X p = a) (e2 : Y p = b) (e3 : W p = w) (hi : i ≤ K) : SUB N X Y W (K + 1) (cutN (K + 1) (insB U i a)) (cutN (K + 1) (insB V i b)) (cutN (K + 1) (insB Z i w)) := by
  intro j hj
  rw [cutN_lt hj, cutN_lt hj, cutN_lt hj]
  unfold insB
  by_cases c : j < i
  · rw [if_pos c, if_pos c, if_pos c]
    exact h j (by omega)
  · by_cases d : j = i
    · rw [if_neg c, if_neg c, if_neg c, if_pos d, if_pos d, if_pos d]
      exact ⟨p, hp, e1.symm, e2.symm, e3.symm⟩
    · rw [if_neg c, if_neg c, if_neg c, if_neg d, if_neg d, if_neg d]
      exact h (j - 1) (by omega)
/-- a point that comes and goes -/
theorem ins_row {K i v : Nat} {f : Nat → Nat} (hf : cutN K f = f) (hi : i ≤ K) : cutN (K + 1 - 1) (delB (cutN (K + 1) (insB f i v)) i) = f := by
  rw [Nat.add_sub_cancel]
  refine Eq.trans ?_ hf
  funext j
  by_cases c : j < K
  · rw [cutN_lt c, cutN_lt c]
    unfold delB
    by_cases d : j < i
    · rw [if_pos d, cutN_lt (show j < K + 1 by omega)]
      unfold insB
      rw [if_pos d]
    · rw [if_neg d, cutN_lt (show j + 1 < K + 1 by omega)]
      unfold insB
      rw [if_neg (show ¬ j + 1 < i by omega), if_neg (show ¬ j + 1 = i by omega), Nat.add_sub_cancel]
  · unfold cutN
    rw [if_neg c, if_neg c]
theorem ip_le {X Y : Nat → Nat} {a b N : Nat} : ipB X Y a b N ≤ N := (ip_spec (X := X) (Y := Y) (a := a) (b := b) (N := N)).1
theorem ins_del {K a b w : Nat} {U V Z : Nat → Nat} (g : OKM K U V Z) :
    delO (K + 1) (cutN (K + 1) (insB U (ipB U V a b K) a)) (cutN (K + 1) (insB V (ipB U V a b K) b)) (cutN (K + 1) (insB Z (ipB U V a b K) w)) (ipB U V a b K) = (K, U, V, Z) := by
  unfold delO
  rw [ins_row g.2.1 ip_le, ins_row g.2.2.1 ip_le, ins_row g.2.2.2 ip_le, Nat.add_sub_cancel]
theorem ins_at {K a b w : Nat} {U V Z : Nat → Nat} (g : GOOD K U V Z) (hK : K < 24) (ha : a < 1024) (hb : b < 1024) (hw : 1 ≤ w ∧ w ≤ 99) (hne : ∀ p, p < K → ¬ (U p = a ∧ V p = b)) :
    atB (K + 1) (cutN (K + 1) (insB U (ipB U V a b K) a)) (cutN (K + 1) (insB V (ipB U V a b K) b)) a b = some (ipB U V a b K) := by
  have hi := ip_le (X := U) (Y := V) (a := a) (b := b) (N := K)
  generalize ipB U V a b K = i at hi
  refine fstB_some.mpr ⟨by omega, ?_, fun j hj => ?_⟩
  · rw [cutN_lt (show i < K + 1 by omega), cutN_lt (show i < K + 1 by omega)]
    unfold insB
    rw [if_neg (Nat.lt_irrefl i), if_neg (Nat.lt_irrefl i), if_pos rfl, if_pos rfl, decide_eq_true rfl, decide_eq_true rfl]
    rfl
  · rw [cutN_lt (show j < K + 1 by omega), cutN_lt (show j < K + 1 by omega)]
    unfold insB
    rw [if_pos hj, if_pos hj]
    have n := hne j (by omega)
    by_cases q : U j = a
    · rw [decide_eq_false (fun z => n ⟨q, z⟩), Bool.and_false]
    · rw [decide_eq_false q, Bool.false_and]
theorem turn_all {N p w : Nat} (hp : p < N) (hw : w < N) : ∃ q, q < N ∧ (p + q) % N = w := by
  refine ⟨(w + N - p) % N, Nat.mod_lt _ (by omega), ?_⟩
  rw [Nat.add_mod_mod, show p + (w + N - p) = w + N by omega, Nat.add_mod_right, Nat.mod_eq_of_lt hw]
