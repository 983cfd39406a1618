/-! ===== PURE 24: a scale is cut ===== -/
def ixB (s : Nat → Nat) (p : Nat) : Nat := cntB (hdB s) p
def ctB (X W : Nat → Nat) (m N : Nat) : Nat := sumB (fun i => if m.testBit i = true then X i * W i else 0) N / wtB W m N
def SCALE (N : Nat) (s X Y W : Nat → Nat) (cnt : Int32) (groupAt sets weights xs ys : Nat → Int32) : Prop :=
  cnt = nI (cntB (hdB s) N) ∧ (∀ p, p < N → hdB s p = true → sets (ixB s p) = nI (s p) ∧ weights (ixB s p) = nI (wtB W (s p) N) ∧ xs (ixB s p) = nI (ctB X W (s p) N) ∧ ys (ixB s p) = nI (ctB Y W (s p) N)) ∧
  ∀ p, p < N → groupAt p = nI (ixB s (lo (s p)))
theorem sxB_le {X W : Nat → Nat} {m N : Nat} (hN : N ≤ 24) (hX : ∀ i, i < N → X i < 1024) (hW : ∀ i, i < N → W i ≤ 99) : sumB (fun i => if m.testBit i = true then X i * W i else 0) N ≤ 2430648 := by
  have : sumB (fun i => if m.testBit i = true then X i * W i else 0) N ≤ N * (1023 * 99) := sumB_le (fun k hk => by
    split
    · have a := hX k hk
      exact Nat.mul_le_mul (by omega) (hW k hk)
    · omega)
  omega
theorem wtB_pos {W : Nat → Nat} {m p : Nat} (hm : m.testBit p = true) (hW : 1 ≤ W p) : ∀ N, p < N → 1 ≤ wtB W m N
  | 0, h => by omega
  | N + 1, h => by
    unfold wtB
    simp only [sumB]
    rcases Nat.lt_succ_iff_lt_or_eq.mp h with g | g
    · have := wtB_pos hm hW N g
      unfold wtB at this
      omega
    · subst g
      rw [if_pos hm]
      omega
theorem sumB_leN {f : Nat → Nat} {m n : Nat} (h : m ≤ n) : sumB f m ≤ sumB f n := by
  induction n with
  | zero => rw [show m = 0 by omega]; exact Nat.le_refl _
  | succ n ih =>
    rcases Nat.eq_or_lt_of_le h with e | e
    · rw [e]; exact Nat.le_refl _
    · have := ih (by omega)
      simp only [sumB]
      omega
theorem gather5 {F N g m : Nat} {X Y W : Nat → Nat} {ws pxs pys sets : Nat → Int32} (hF : 1000 ≤ F) (gd : GOOD N X Y W) (hP : ROWS N X Y W ws pxs pys) (hm : m < 2 ^ 31) (hg : g < 24) (hs : sets g = nI m) (hw : 1 ≤ wtB W m N) (groupAt weights xs ys : Nat → Int32) :
    ∃ ga, mX5_gather F (nI g) (nI N) groupAt sets weights xs ys ws pxs pys = some (ga, upd weights g (nI (wtB W m N)), upd xs g (nI (ctB X W m N)), upd ys g (nI (ctB Y W m N))) ∧
      ∀ p, p < N → ga p = if m.testBit p = true then nI g else groupAt p := by
  have hN := gd.1
  have hX : ∀ i, i < N → X i < 1024 := fun i hi => (gd.2.1 i hi).1
  have hY : ∀ i, i < N → Y i < 1024 := fun i hi => (gd.2.1 i hi).2
  have hW : ∀ i, i < N → W i ≤ 99 := fun i hi => (gd.2.2.1 i hi).2
  have bx := sxB_le (m := m) hN hX hW
  have bY := sxB_le (m := m) hN hY hW
  have bw := wtB_le (m := m) hN hW
  obtain ⟨ga, e, gg⟩ := lpI (body := fun s11 : Int32 × Int32 × Int32 × Int32 × (Nat → Int32) => mX5_gather_b11 F (nI g) (nI N) sets ws pxs pys s11.1 s11.2.1 s11.2.2.1 s11.2.2.2.1 s11.2.2.2.2) (F := F)
    (fun k (t : Nat → Int32) => (nI (wtB W m k), nI (sumB (fun i => if m.testBit i = true then X i * W i else 0) k), nI (sumB (fun i => if m.testBit i = true then Y i * W i else 0) k), nI k, t))
    (fun k t => ∀ p, p < N → t p = if p < k then (if m.testBit p = true then nI g else groupAt p) else groupAt p) 0 N
    (fun t => (nI (wtB W m N), nI (sumB (fun i => if m.testBit i = true then X i * W i else 0) N), nI (sumB (fun i => if m.testBit i = true then Y i * W i else 0) N), t)) groupAt (by omega) (s0 := ((0 : Int32), (0 : Int32), (0 : Int32), (0 : Int32), groupAt)) rfl
    (fun p hp => by rw [if_neg (by omega)]) (fun k t _ hk hI2 => by
      have ⟨p1, p2, p3⟩ := hP k hk
      have hle : ¬ nI N ≤ nI k := by rw [nI_leE (by omega) (by omega)]; omega
      cases hb : m.testBit k with
      | true =>
        refine ⟨upd t k (nI g), ?_, fun p hp => ?_⟩
        · unfold mX5_gather_b11
          simp only []
          rw [if_neg hle, rdI_n (by omega) (by omega), Option.bind_some, hs, has6b F hm (by omega), Option.bind_some, hb, if_neg (by rw [k0T]; exact id), wrI_n (by omega) (by omega), Option.bind_some, rdI_n (by omega) (by omega), Option.bind_some, p1, Option.bind_some, rdI_n (by omega) (by omega), Option.bind_some, p2, Option.bind_some,
            rdI_n (by omega) (by omega), p3]
          simp only [Option.bind_some, nI_add, pk_mul, nI_1, wtB, sumB, hb, if_true]
        · by_cases e2 : p = k
          · subst e2; rw [pk_us, if_pos (by omega), if_pos hb]
          · rw [pk_un e2, hI2 p hp]
            by_cases e3 : p < k
            · rw [if_pos e3, if_pos (show p < k + 1 by omega)]
            · rw [if_neg e3, if_neg (show ¬ p < k + 1 by omega)]
      | false =>
        refine ⟨t, ?_, fun p hp => ?_⟩
        · unfold mX5_gather_b11
          simp only []
          rw [if_neg hle, rdI_n (by omega) (by omega), Option.bind_some, hs, has6b F hm (by omega), Option.bind_some, hb, if_pos (by rw [k0F]; trivial)]
          simp [nI_1, wtB, sumB, hb]
        · rw [hI2 p hp]
          by_cases e2 : p = k
          · subst e2; rw [if_neg (by omega), if_pos (by omega), if_neg (by rw [hb]; decide)]
          · by_cases e3 : p < k
            · rw [if_pos e3, if_pos (show p < k + 1 by omega)]
            · rw [if_neg e3, if_neg (show ¬ p < k + 1 by omega)])
    (fun t hI2 => by
      unfold mX5_gather_b11
      simp only []
      rw [if_pos (by rw [nI_leE (by omega) (by omega)]; omega)]) (by omega)
  refine ⟨ga, ?_, fun p hp => by have := gg p hp; rw [if_pos hp] at this; exact this⟩
  have w0 : ¬ nI (wtB W m N) ≤ 0 := by rw [nI_le0 (by omega)]; omega
  have w1 : ¬ nI (wtB W m N) = 0 := by rw [nI_eq0 (by omega)]; omega
  unfold mX5_gather ctB
  rw [e, Option.bind_some]
  simp only []
  rw [wrI_n (by omega) (by omega), Option.bind_some, if_neg w0, if_neg w1, wrI_n (by omega) (by omega), Option.bind_some, if_neg w0, if_neg w1, wrI_n (by omega) (by omega), Option.bind_some, pk_div (by omega) (by omega) (by omega), pk_div (by omega) (by omega) (by omega)]
theorem hd_lo {N : Nat} {s : Nat → Nat} (hN : N ≤ 24) (hS : PART N s) {q : Nat} (hq : q < N) : hdB s (lo (s q)) = true := by
  have l := lo_part hN hS hq
  unfold hdB
  rw [l.2.2.1]
  exact decide_eq_true rfl
theorem hd_in {N : Nat} {s : Nat → Nat} (hN : N ≤ 24) (hS : PART N s) {p q : Nat} (hp : p < N) (hq : q < N) (h : hdB s p = true) : (s p).testBit q = decide (lo (s q) = p) := by
  have hl : lo (s p) = p := of_decide_eq_true h
  by_cases e : lo (s q) = p
  · rw [decide_eq_true e]
    have l := lo_part hN hS hq
    rw [e] at l
    rw [l.2.2.1]
    exact (hS q hq).1
  · rw [decide_eq_false e]
    cases g : (s p).testBit q with
    | false => rfl
    | true =>
      have := (hS p hp).2.2 q hq g
      rw [this] at e
      exact absurd hl e
def seenB (s : Nat → Nat) (N i : Nat) : Nat := mkB (fun q => decide (lo (s q) < i)) N
theorem seen_succ {N i : Nat} {s : Nat → Nat} (hN : N ≤ 24) (hS : PART N s) (hi : i < N) : seenB s N (i + 1) = if hdB s i = true then seenB s N i ||| s i else seenB s N i := by
  unfold seenB
  apply mask_ext
  intro q
  by_cases hq : q < N
  · have l := hd_in hN hS hi hq
    cases h : hdB s i with
    | true =>
      rw [if_pos rfl, or_bit, mkB_bit, mkB_bit, l h]
      simp only [hq, decide_true, Bool.true_and]
      by_cases e : lo (s q) < i
      · rw [decide_eq_true e, decide_eq_true (show lo (s q) < i + 1 by omega)]; rfl
      · by_cases e2 : lo (s q) = i
        · rw [decide_eq_true e2, decide_eq_true (show lo (s q) < i + 1 by omega)]; simp
        · rw [decide_eq_false e, decide_eq_false e2, decide_eq_false (show ¬ lo (s q) < i + 1 by omega)]; rfl
    | false =>
      rw [if_neg (by decide), mkB_bit, mkB_bit]
      simp only [hq, decide_true, Bool.true_and]
      have ne : lo (s q) ≠ i := fun e => by have := hd_lo hN hS hq; rw [e, h] at this; cases this
      exact decide_eq_decide.mpr (by omega)
  · have z : ∀ j, (mkB (fun q => decide (lo (s q) < j)) N).testBit q = false := fun j => by rw [mkB_bit]; simp [hq]
    split
    · rw [or_bit, z, z]
      cases g : (s i).testBit q with
      | false => rfl
      | true => exact absurd (bit_lt (hS i hi).2.1 g) hq
    · rw [z, z]
theorem ix_lt {s : Nat → Nat} {p : Nat} : ixB s p ≤ p := cntB_le _ _
theorem ix_succ (s : Nat → Nat) (p : Nat) : ixB s (p + 1) = ixB s p + (if hdB s p = true then 1 else 0) := rfl
theorem ix_mono {s : Nat → Nat} {p q : Nat} (h : p ≤ q) : ixB s p ≤ ixB s q := by
  induction q with
  | zero => rw [show p = 0 by omega]; exact Nat.le_refl _
  | succ q ih =>
    rcases Nat.eq_or_lt_of_le h with e | e
    · rw [e]; exact Nat.le_refl _
    · rw [ix_succ]
      have := ih (by omega)
      omega
theorem ix_strict {s : Nat → Nat} {p q : Nat} (hp : hdB s p = true) (h : p < q) : ixB s p < ixB s q := by
  have := ix_mono (s := s) (show p + 1 ≤ q by omega)
  rw [ix_succ, if_pos hp] at this
  omega
def cutI (N : Nat) (s X Y W : Nat → Nat) (i : Nat) (t : (Nat → Int32) × (Nat → Int32) × (Nat → Int32) × (Nat → Int32) × (Nat → Int32)) : Prop :=
  (∀ p, p < i → hdB s p = true → t.2.1 (ixB s p) = nI (s p) ∧ t.2.2.1 (ixB s p) = nI (wtB W (s p) N) ∧ t.2.2.2.1 (ixB s p) = nI (ctB X W (s p) N) ∧ t.2.2.2.2 (ixB s p) = nI (ctB Y W (s p) N)) ∧
  ∀ p, p < N → lo (s p) < i → t.1 p = nI (ixB s (lo (s p)))
theorem cut5 {F N m : Nat} {X Y W : Nat → Nat} {aparts fs firsts ja os parts pa roots seconds ws pxs pys : Nat → Int32} {pairs : Nat → Int64} (hF : 1000 ≤ F) (gd : GOOD N X Y W) (hP : ROWS N X Y W ws pxs pys) (h : TR2 X Y N aparts fs firsts ja os parts pa roots seconds pairs) (hm : m ≤ N - 1) (groupAt sets weights xs ys : Nat → Int32) :
    ∃ r, loop (fun s17 : Int32 × Int32 × Int32 × (Nat → Int32) × (Nat → Int32) × (Nat → Int32) × (Nat → Int32) × (Nat → Int32) => mX5_cut_b17 F (nI (N - 1)) (nI N) parts ws pxs pys (nI m) s17.1 s17.2.1 s17.2.2.1 s17.2.2.2.1 s17.2.2.2.2.1 s17.2.2.2.2.2.1 s17.2.2.2.2.2.2.1 s17.2.2.2.2.2.2.2) F
        ((0 : Int32), (0 : Int32), (0 : Int32), groupAt, sets, weights, xs, ys) = some r ∧ SCALE N (smT X Y N m) X Y W r.1 r.2.1 r.2.2.1 r.2.2.2.1 r.2.2.2.2.1 r.2.2.2.2.2 := by
  have hN := gd.1
  have hS := smT_part (X := X) (Y := Y) hN hm
  have hpo : ∀ p, p < N → mX2_partOf F (nI p) (nI m) (nI (N - 1)) parts = some (nI (smT X Y N m p)) := fun p hp => partOf2 hF (by omega) hm (by omega) (tr2_pm hN h)
  generalize smT X Y N m = s at hS hpo ⊢
  have sn0 : seenB s N 0 = 0 := by
    apply mask_ext
    intro q
    unfold seenB
    rw [mkB_bit]
    simp
  obtain ⟨t, e, g⟩ := lpI (body := fun s17 : Int32 × Int32 × Int32 × (Nat → Int32) × (Nat → Int32) × (Nat → Int32) × (Nat → Int32) × (Nat → Int32) => mX5_cut_b17 F (nI (N - 1)) (nI N) parts ws pxs pys (nI m) s17.1 s17.2.1 s17.2.2.1 s17.2.2.2.1 s17.2.2.2.2.1 s17.2.2.2.2.2.1 s17.2.2.2.2.2.2.1 s17.2.2.2.2.2.2.2) (F := F)
    (fun i (t : (Nat → Int32) × (Nat → Int32) × (Nat → Int32) × (Nat → Int32) × (Nat → Int32)) => (nI (seenB s N i), nI i, nI (ixB s i), t)) (cutI N s X Y W) 0 N (fun t => (nI (ixB s N), t)) (groupAt, sets, weights, xs, ys) (by omega)
    (s0 := ((0 : Int32), (0 : Int32), (0 : Int32), groupAt, sets, weights, xs, ys)) (by show _ = (nI (seenB s N 0), nI 0, nI (ixB s 0), groupAt, sets, weights, xs, ys); rw [sn0]; rfl)
    ⟨fun p hp => by omega, fun p _ hp => by omega⟩ (fun i t _ hi hI2 => by
      have hle : ¬ nI N ≤ nI i := by rw [nI_leE (by omega) (by omega)]; omega
      have sl : seenB s N i < 2 ^ 31 := mk_lt31 _ (by omega)
      have sb : (seenB s N i).testBit i = decide (lo (s i) < i) := by unfold seenB; rw [mkB_bit]; simp [hi]
      have l := lo_part hN hS hi
      have ixl := ix_lt (s := s) (p := i)
      have ⟨q24, q0⟩ := part_24 hN hS hi
      cases hd : hdB s i with
      | true =>
        have el : lo (s i) = i := of_decide_eq_true hd
        rw [el, decide_eq_false (by omega)] at sb
        obtain ⟨ga, eg, gg⟩ := gather5 (F := F) (g := ixB s i) (m := s i) (sets := upd t.2.1 (ixB s i) (nI (s i))) hF gd hP (by omega) (by omega) pk_us (wtB_pos (hS i hi).1 (gd.2.2.1 i hi).1 N hi) t.1 t.2.2.1 t.2.2.2.1 t.2.2.2.2
        refine ⟨(ga, upd t.2.1 (ixB s i) (nI (s i)), upd t.2.2.1 (ixB s i) (nI (wtB W (s i) N)), upd t.2.2.2.1 (ixB s i) (nI (ctB X W (s i) N)), upd t.2.2.2.2 (ixB s i) (nI (ctB Y W (s i) N))), ?_, fun p hp hdp => ?_, fun p hp hlp => ?_⟩
        · unfold mX5_cut_b17
          simp only []
          rw [if_neg hle, has6b F sl (by omega), Option.bind_some, sb, if_pos (by rw [k0F]; trivial), hpo i hi, Option.bind_some, wrI_n (by omega) (by omega), Option.bind_some, rdI_n (by omega) (by omega), Option.bind_some, pk_us, nI_or sl (by omega), Option.bind_some, eg, Option.bind_some, nI_1, nI_1, Option.bind_some,
            seen_succ hN hS hi, if_pos hd, ix_succ, if_pos hd]
        · simp only []
          by_cases e2 : p = i
          · subst e2; simp only [pk_us, and_self]
          · have ne : ixB s p ≠ ixB s i := by have := ix_strict hdp (show p < i by omega); omega
            simp only [pk_un ne]
            exact hI2.1 p (by omega) hdp
        · simp only []
          rw [gg p hp, hd_in hN hS hi hp hd]
          by_cases e2 : lo (s p) = i
          · rw [if_pos (decide_eq_true e2), e2]
          · rw [if_neg (by rw [decide_eq_false e2]; decide)]
            exact hI2.2 p hp (by omega)
      | false =>
        have el : lo (s i) ≠ i := of_decide_eq_false hd
        rw [decide_eq_true (by omega)] at sb
        refine ⟨t, ?_, fun p hp hdp => ?_, fun p hp hlp => ?_⟩
        · unfold mX5_cut_b17
          simp only []
          rw [if_neg hle, has6b F sl (by omega), Option.bind_some, sb, if_neg (by rw [k0T]; exact id), nI_1, seen_succ hN hS hi, if_neg (by rw [hd]; decide), ix_succ, if_neg (by rw [hd]; decide)]
          rfl
        · have ne : p ≠ i := fun e2 => by rw [e2, hd] at hdp; cases hdp
          exact hI2.1 p (by omega) hdp
        · have ne : lo (s p) ≠ i := fun e2 => by have := hd_lo hN hS hp; rw [e2, hd] at this; cases this
          exact hI2.2 p hp (by omega))
    (fun t hI2 => by
      unfold mX5_cut_b17
      simp only []
      rw [if_pos (by rw [nI_leE (by omega) (by omega)]; omega)]) (by omega)
  exact ⟨_, e, rfl, fun p hp hd => g.1 p hp hd, fun p hp => g.2 p hp (lo_part hN hS hp).1⟩
theorem cutZ {F N z : Nat} {X Y W : Nat → Nat} {aparts fs firsts ja os parts pa roots seconds ws pxs pys : Nat → Int32} {pairs : Nat → Int64} {oc pc : Int32} (hF : 1000 ≤ F) (gd : GOOD N X Y W) (hP : ROWS N X Y W ws pxs pys) (h : TR2 X Y N aparts fs firsts ja os parts pa roots seconds pairs) (hz : z ≤ 10) (hoc : oc = nI (N - 1)) (hpc : pc = nI N) (cnt : Int32) (groupAt sets weights xs ys : Nat → Int32) :
    ∃ r, mX5_cut F (nI z) cnt oc pc groupAt sets weights xs ys aparts parts ws pxs pys = some r ∧ SCALE N (szB X Y N z) X Y W r.1 r.2.1 r.2.2.1 r.2.2.2.1 r.2.2.2.2.1 r.2.2.2.2.2 := by
  subst hoc hpc
  have hN := gd.1
  have w := within2 (F := F) hF (show N - 1 ≤ 24 by omega) hz (tr2_A hN gd.2.1 h)
  obtain ⟨r, e, g⟩ := cut5 (F := F) hF gd hP h (jwB_le (AA X Y N) (N - 1) z) groupAt sets weights xs ys
  refine ⟨r, ?_, g⟩
  unfold mX5_cut
  rw [w, Option.bind_some, e]
/-- the heads by their numbers -/
theorem hd_ex {s : Nat → Nat} : ∀ {N g}, g < cntB (hdB s) N → ∃ p, p < N ∧ hdB s p = true ∧ ixB s p = g
  | 0, g, h => by simp [cntB] at h
  | N + 1, g, h => by
    simp only [cntB] at h
    by_cases e : g < cntB (hdB s) N
    · obtain ⟨p, p1, p2, p3⟩ := hd_ex e
      exact ⟨p, by omega, p2, p3⟩
    · cases hd : hdB s N with
      | true =>
        rw [hd, if_pos rfl] at h
        exact ⟨N, by omega, hd, by unfold ixB; omega⟩
      | false =>
        rw [hd, if_neg (by decide)] at h
        omega
theorem hd_uniq {s : Nat → Nat} {p q : Nat} (hp : hdB s p = true) (hq : hdB s q = true) (h : ixB s p = ixB s q) : p = q := by
  rcases Nat.lt_trichotomy p q with e | e | e
  · have := ix_strict hp e; omega
  · exact e
  · have := ix_strict hq e; omega
