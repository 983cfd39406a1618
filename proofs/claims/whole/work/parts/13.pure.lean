/-! ===== PURE 4: leaves: points ===== -/
theorem find4 {F N : Nat} (hF : 1000 ≤ F) (hN : N ≤ 24) (a b : Int32) (xs ys : Nat → Int32) :
    mX4_find F a b (nI N) xs ys = some (oI (fstB (fun i => decide (xs i = a) && decide (ys i = b)) N)) := by
  unfold mX4_find
  refine (lpS nI (fun i => decide (xs i = a) && decide (ys i = b)) N nI (-1) rfl (fun k hk _ => ?_) (fun _ => ?_) (by omega)).trans ?_
  · by_cases h1 : xs k = a <;> by_cases h2 : ys k = b <;> simp (disch := omega) [mX4_find_b2, Option.bind_some, nI_leE, nI_ltE, nI_eqE, nI_1, nI_add, rdI_n, rdL_n, wrI_n, wrL_n, has6b, has9b, bI_0, bI_1, nI_m1, nI_lt0, nI_le0, nI_0le, nI_eq0, leF, leT, ltF, ltT, eqF, h1, h2]
  · simp (disch := omega) [mX4_find_b2, Option.bind_some, nI_leE, nI_ltE, nI_eqE, nI_1, nI_add, rdI_n, rdL_n, wrI_n, wrL_n, has6b, has9b, bI_0, bI_1, nI_m1, nI_lt0, nI_le0, nI_0le, nI_eq0, leF, leT, ltF, ltT, eqF]
  · rw [oI_def]
theorem find9 {F N : Nat} (hF : 1000 ≤ F) (hN : N ≤ 24) (a b : Int32) (xs ys : Nat → Int32) :
    mX9_pointAt F a b (nI N) xs ys = some (oI (fstB (fun i => decide (xs i = a) && decide (ys i = b)) N)) := by
  unfold mX9_pointAt
  refine (lpS nI (fun i => decide (xs i = a) && decide (ys i = b)) N nI (-1) rfl (fun k hk _ => ?_) (fun _ => ?_) (by omega)).trans ?_
  · by_cases h1 : xs k = a <;> by_cases h2 : ys k = b <;> simp (disch := omega) [mX9_pointAt_b2, Option.bind_some, nI_leE, nI_ltE, nI_eqE, nI_1, nI_add, rdI_n, rdL_n, wrI_n, wrL_n, has6b, has9b, bI_0, bI_1, nI_m1, nI_lt0, nI_le0, nI_0le, nI_eq0, leF, leT, ltF, ltT, eqF, h1, h2]
  · simp (disch := omega) [mX9_pointAt_b2, Option.bind_some, nI_leE, nI_ltE, nI_eqE, nI_1, nI_add, rdI_n, rdL_n, wrI_n, wrL_n, has6b, has9b, bI_0, bI_1, nI_m1, nI_lt0, nI_le0, nI_0le, nI_eq0, leF, leT, ltF, ltT, eqF]
  · rw [oI_def]
/-- the weight of a set -/
def wtB (W : Nat → Nat) (m N : Nat) : Nat := sumB (fun i => if m.testBit i = true then W i else 0) N
theorem weight4 {F N m : Nat} {W : Nat → Nat} {ws : Nat → Int32} (hF : 1000 ≤ F) (hN : N ≤ 24) (hm : m < 2 ^ 31) (hw : ∀ i, i < N → ws i = nI (W i)) :
    mX4_weightOf F (nI m) (nI N) ws = some (nI (wtB W m N)) := by
  unfold mX4_weightOf
  refine lp (fun k => (nI (wtB W m k), nI k)) 0 N _ (by omega) rfl (fun k _ hk => ?_) ?_ (by omega)
  · cases h1 : m.testBit k <;> simp (disch := omega) [mX4_weightOf_b4, Option.bind_some, nI_leE, nI_ltE, nI_eqE, nI_1, nI_add, rdI_n, rdL_n, wrI_n, wrL_n, has6b, has9b, bI_0, bI_1, nI_m1, nI_lt0, nI_le0, nI_0le, nI_eq0, leF, leT, ltF, ltT, eqF, h1, hw, wtB, sumB]
  · simp (disch := omega) [mX4_weightOf_b4, Option.bind_some, nI_leE, nI_ltE, nI_eqE, nI_1, nI_add, rdI_n, rdL_n, wrI_n, wrL_n, has6b, has9b, bI_0, bI_1, nI_m1, nI_lt0, nI_le0, nI_0le, nI_eq0, leF, leT, ltF, ltT, eqF]
theorem weight9 {F N m : Nat} {W : Nat → Nat} {ws : Nat → Int32} (hF : 1000 ≤ F) (hN : N ≤ 24) (hm : m < 2 ^ 31) (hw : ∀ i, i < N → ws i = nI (W i)) :
    mX9_weightOf F (nI m) (nI N) ws = some (nI (wtB W m N)) := by
  unfold mX9_weightOf
  refine lp (fun k => (nI (wtB W m k), nI k)) 0 N _ (by omega) rfl (fun k _ hk => ?_) ?_ (by omega)
  · cases h1 : m.testBit k <;> simp (disch := omega) [mX9_weightOf_b4, Option.bind_some, nI_leE, nI_ltE, nI_eqE, nI_1, nI_add, rdI_n, rdL_n, wrI_n, wrL_n, has6b, has9b, bI_0, bI_1, nI_m1, nI_lt0, nI_le0, nI_0le, nI_eq0, leF, leT, ltF, ltT, eqF, h1, hw, wtB, sumB]
  · simp (disch := omega) [mX9_weightOf_b4, Option.bind_some, nI_leE, nI_ltE, nI_eqE, nI_1, nI_add, rdI_n, rdL_n, wrI_n, wrL_n, has6b, has9b, bI_0, bI_1, nI_m1, nI_lt0, nI_le0, nI_0le, nI_eq0, leF, leT, ltF, ltT, eqF]
theorem wtB_le {W : Nat → Nat} {m N : Nat} (hN : N ≤ 24) (hw : ∀ i, i < N → W i ≤ 99) : wtB W m N ≤ 2376 := by
  have : wtB W m N ≤ N * 99 := sumB_le (fun k hk => by split; exact hw k hk; omega)
  omega
/-- how far two numbers are from one another -/
def dst (a b : Nat) : Nat := if a ≤ b then b - a else a - b
def ap (X Y : Nat → Nat) (p q : Nat) : Nat := dst (X p) (X q) * dst (X p) (X q) + dst (Y p) (Y q) * dst (Y p) (Y q)
theorem dst_comm (a b : Nat) : dst a b = dst b a := by unfold dst; split <;> split <;> omega
theorem dst_lt {a b c : Nat} (ha : a < c) (hb : b < c) : dst a b < c := by unfold dst; split <;> omega
theorem ap_comm (X Y : Nat → Nat) (p q : Nat) : ap X Y p q = ap X Y q p := by unfold ap; rw [dst_comm (X p), dst_comm (Y p)]
theorem sq_dst {a b : Nat} (ha : a < 32768) (hb : b < 32768) : (nI a - nI b) * (nI a - nI b) = nI (dst a b * dst a b) := by
  unfold dst
  split
  · have e1 : (nI a - nI b).toInt = (a : Int) - b := pk_sub_toInt (by omega) (by omega)
    have hb1 : (0 : Int) ≤ ((a : Int) - b) * (a - b) := by
      rcases Int.le_total 0 ((a : Int) - b) with h | h
      · exact Int.mul_nonneg h h
      · exact Int.mul_nonneg_of_nonpos_of_nonpos h h
    have e2 : (((b - a : Nat) : Int)) = (b : Int) - a := by omega
    have e3 : (((b - a) * (b - a) : Nat) : Int) = ((a : Int) - b) * (a - b) := by
      rw [Int.natCast_mul, e2, show ((a : Int) - b) = -((b : Int) - a) by omega, Int.neg_mul_neg]
    have hlt : (b - a) * (b - a) ≤ 32768 * 32768 := Nat.mul_le_mul (by omega) (by omega)
    apply tI_ext
    rw [tI_mul e1 e1 (by omega) (by omega), tI_n (by omega), e3]
  · rw [pk_sub (by omega), pk_mul]
theorem sq_bd {a b c : Nat} (ha : a < c) (hb : b < c) : dst a b * dst a b ≤ c * c := Nat.mul_le_mul (Nat.le_of_lt (dst_lt ha hb)) (Nat.le_of_lt (dst_lt ha hb))
theorem sq_bd1 {a b : Nat} (ha : a < 1024) (hb : b < 1024) : dst a b * dst a b ≤ 1023 * 1023 := by
  have := dst_lt ha hb
  exact Nat.mul_le_mul (by omega) (by omega)
theorem ap_lt {X Y : Nat → Nat} {p q : Nat} (h1 : X p < 1024) (h2 : X q < 1024) (h3 : Y p < 1024) (h4 : Y q < 1024) : ap X Y p q ≤ 2093058 := by
  have g1 := sq_bd1 h1 h2
  have g2 := sq_bd1 h3 h4
  unfold ap
  omega
/-- points as both sides hold them -/
def PT (N : Nat) (X Y : Nat → Nat) (xs ys : Nat → Int32) : Prop := ∀ i, i < N → xs i = nI (X i) ∧ ys i = nI (Y i)
def IN (N : Nat) (X Y : Nat → Nat) : Prop := ∀ i, i < N → X i < 1024 ∧ Y i < 1024
theorem apart4 {F N p q : Nat} {X Y : Nat → Nat} {xs ys : Nat → Int32} (hN : N ≤ 24) (hP : PT N X Y xs ys) (hI : IN N X Y) (hp : p < N) (hq : q < N) :
    mX4_apart F (nI p) (nI q) xs ys = some (nI (ap X Y p q)) := by
  have ⟨p1, p2⟩ := hP p hp
  have ⟨q1, q2⟩ := hP q hq
  have ⟨a1, a2⟩ := hI p hp
  have ⟨b1, b2⟩ := hI q hq
  simp (disch := omega) only [mX4_apart, mX4_squares, rdI_n, Option.bind_some, p1, p2, q1, q2, sq_dst, nI_add, ap]
theorem apart9 {F N p q : Nat} {X Y : Nat → Nat} {xs ys : Nat → Int32} (hN : N ≤ 24) (hP : PT N X Y xs ys) (hI : IN N X Y) (hp : p < N) (hq : q < N) :
    mX9_apart F (nI p) (nI q) xs ys = some (nI (ap X Y p q)) := by
  have ⟨p1, p2⟩ := hP p hp
  have ⟨q1, q2⟩ := hP q hq
  have ⟨a1, a2⟩ := hI p hp
  have ⟨b1, b2⟩ := hI q hq
  simp (disch := omega) only [mX9_apart, rdI_n, Option.bind_some, p1, p2, q1, q2, sq_dst, nI_add, ap]
theorem setbit {m k : Nat} (hm : m < 2 ^ 31) (hk : k < 31) : nI m ||| ((1 : Int32) <<< (nI k &&& 31)) = nI (m ||| 2 ^ k) := by
  rw [nI_bit hk, nI_or hm (Nat.pow_lt_pow_right (by omega) hk)]
theorem mk_lt31 (p : Nat → Bool) {k : Nat} (hk : k ≤ 31) : mkB p k < 2 ^ 31 := Nat.lt_of_lt_of_le (mkB_lt p k) (Nat.pow_le_pow_right (by omega) hk)
def inW (x0 x1 y0 y1 : Int32) (xs ys : Nat → Int32) (i : Nat) : Bool := decide (x0 ≤ xs i) && decide (xs i ≤ x1) && decide (y0 ≤ ys i) && decide (ys i ≤ y1)
theorem within4 {F N : Nat} (hF : 1000 ≤ F) (hN : N ≤ 24) (x0 x1 y0 y1 : Int32) (xs ys : Nat → Int32) :
    mX4_within F x0 x1 y0 y1 (nI N) xs ys = some (nI (mkB (inW x0 x1 y0 y1 xs ys) N)) := by
  unfold mX4_within
  refine lp (fun k => (nI (mkB (inW x0 x1 y0 y1 xs ys) k), nI k)) 0 N _ (by omega) rfl (fun k _ hk => ?_) ?_ (by omega)
  · have hs := setbit (mk_lt31 (inW x0 x1 y0 y1 xs ys) (k := k) (by omega)) (k := k) (by omega)
    by_cases h1 : xs k < x0
    · have g1 : ¬ x0 ≤ xs k := Int32.not_le.mpr h1
      simp (disch := omega) [mX4_within_b6, Option.bind_some, nI_leE, nI_ltE, nI_eqE, nI_1, nI_add, rdI_n, rdL_n, wrI_n, wrL_n, has6b, has9b, bI_0, bI_1, nI_m1, nI_lt0, nI_le0, nI_0le, nI_eq0, leF, leT, ltF, ltT, eqF, h1, g1, mkB, inW]
    · have g1 : x0 ≤ xs k := Int32.not_lt.mp h1
      by_cases h2 : x1 < xs k
      · have g2 : ¬ xs k ≤ x1 := Int32.not_le.mpr h2
        simp (disch := omega) [mX4_within_b6, Option.bind_some, nI_leE, nI_ltE, nI_eqE, nI_1, nI_add, rdI_n, rdL_n, wrI_n, wrL_n, has6b, has9b, bI_0, bI_1, nI_m1, nI_lt0, nI_le0, nI_0le, nI_eq0, leF, leT, ltF, ltT, eqF, h1, g1, h2, g2, mkB, inW]
      · have g2 : xs k ≤ x1 := Int32.not_lt.mp h2
        by_cases h3 : ys k < y0
        · have g3 : ¬ y0 ≤ ys k := Int32.not_le.mpr h3
          simp (disch := omega) [mX4_within_b6, Option.bind_some, nI_leE, nI_ltE, nI_eqE, nI_1, nI_add, rdI_n, rdL_n, wrI_n, wrL_n, has6b, has9b, bI_0, bI_1, nI_m1, nI_lt0, nI_le0, nI_0le, nI_eq0, leF, leT, ltF, ltT, eqF, h1, g1, h2, g2, h3, g3, mkB, inW]
        · have g3 : y0 ≤ ys k := Int32.not_lt.mp h3
          by_cases h4 : y1 < ys k
          · have g4 : ¬ ys k ≤ y1 := Int32.not_le.mpr h4
            simp (disch := omega) [mX4_within_b6, Option.bind_some, nI_leE, nI_ltE, nI_eqE, nI_1, nI_add, rdI_n, rdL_n, wrI_n, wrL_n, has6b, has9b, bI_0, bI_1, nI_m1, nI_lt0, nI_le0, nI_0le, nI_eq0, leF, leT, ltF, ltT, eqF, h1, g1, h2, g2, h3, g3, h4, g4, mkB, inW]
          · have g4 : ys k ≤ y1 := Int32.not_lt.mp h4
            have hi : inW x0 x1 y0 y1 xs ys k = true := by simp [inW, g1, g2, g3, g4]
            simp (disch := omega) [mX4_within_b6, Option.bind_some, nI_leE, nI_ltE, nI_eqE, nI_1, nI_add, rdI_n, rdL_n, wrI_n, wrL_n, has6b, has9b, bI_0, bI_1, nI_m1, nI_lt0, nI_le0, nI_0le, nI_eq0, leF, leT, ltF, ltT, eqF, h1, h2, h3, h4, mkB, hs, hi]
  · simp (disch := omega) [mX4_within_b6, Option.bind_some, nI_leE, nI_ltE, nI_eqE, nI_1, nI_add, rdI_n, rdL_n, wrI_n, wrL_n, has6b, has9b, bI_0, bI_1, nI_m1, nI_lt0, nI_le0, nI_0le, nI_eq0, leF, leT, ltF, ltT, eqF]
theorem isWithin9 (F : Nat) (a b x0 x1 y0 y1 : Int32) : mX9_isWithin F a b x0 x1 y0 y1 = some (bI (decide (x0 ≤ a) && decide (a ≤ x1) && decide (y0 ≤ b) && decide (b ≤ y1))) := by
  unfold mX9_isWithin
  by_cases h1 : a < x0
  · simp [h1, Int32.not_le.mpr h1, bI]
  · by_cases h2 : x1 < a
    · simp [h1, h2, Int32.not_le.mpr h2, bI]
    · by_cases h3 : b < y0
      · simp [h1, h2, h3, Int32.not_le.mpr h3, bI]
      · by_cases h4 : y1 < b
        · simp [h1, h2, h3, h4, Int32.not_le.mpr h4, bI]
        · simp [h1, h2, h3, h4, Int32.not_lt.mp h1, Int32.not_lt.mp h2, Int32.not_lt.mp h3, Int32.not_lt.mp h4, bI]
theorem within9 {F N : Nat} (hF : 1000 ≤ F) (hN : N ≤ 24) (x0 x1 y0 y1 : Int32) (xs ys : Nat → Int32) :
    mX9_pointsIn F x0 x1 y0 y1 (nI N) xs ys = some (nI (mkB (inW x0 x1 y0 y1 xs ys) N)) := by
  unfold mX9_pointsIn
  refine lp (fun k => (nI (mkB (inW x0 x1 y0 y1 xs ys) k), nI k)) 0 N _ (by omega) rfl (fun k _ hk => ?_) ?_ (by omega)
  · have hs := setbit (mk_lt31 (inW x0 x1 y0 y1 xs ys) (k := k) (by omega)) (k := k) (by omega)
    have hw : mX9_isWithin F (xs k) (ys k) x0 x1 y0 y1 = some (bI (inW x0 x1 y0 y1 xs ys k)) := isWithin9 F _ _ _ _ _ _
    cases h : inW x0 x1 y0 y1 xs ys k <;> simp (disch := omega) [mX9_pointsIn_b6, Option.bind_some, nI_leE, nI_ltE, nI_eqE, nI_1, nI_add, rdI_n, rdL_n, wrI_n, wrL_n, has6b, has9b, bI_0, bI_1, nI_m1, nI_lt0, nI_le0, nI_0le, nI_eq0, leF, leT, ltF, ltT, eqF, hw, h, mkB, hs]
  · simp (disch := omega) [mX9_pointsIn_b6, Option.bind_some, nI_leE, nI_ltE, nI_eqE, nI_1, nI_add, rdI_n, rdL_n, wrI_n, wrL_n, has6b, has9b, bI_0, bI_1, nI_m1, nI_lt0, nI_le0, nI_0le, nI_eq0, leF, leT, ltF, ltT, eqF]
