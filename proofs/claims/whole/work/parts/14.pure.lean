/-! ===== PURE 5: leaves: sets, roots, longs ===== -/
theorem nth6 {F m : Nat} (hF : 1000 ≤ F) (hm : m < 2 ^ 31) (n : Int32) :
    mX6_nth F (nI m) n = some (oI (fstB (fun k => m.testBit k && decide (nI (cntB m.testBit k) = n)) 24)) := by
  unfold mX6_nth
  refine (lpS (fun k => (nI (cntB m.testBit k), nI k)) (fun k => m.testBit k && decide (nI (cntB m.testBit k) = n)) 24 nI (-1) rfl (fun k hk _ => ?_) (fun _ => ?_) (by omega)).trans ?_
  · cases h1 : m.testBit k
    · simp (disch := omega) [mX6_nth_b4, c24, Option.bind_some, nI_leE, nI_ltE, nI_eqE, nI_1, nI_add, rdI_n, rdL_n, wrI_n, wrL_n, has6b, has9b, bI_0, bI_1, nI_m1, nI_lt0, nI_le0, nI_0le, nI_eq0, leF, leT, ltF, ltT, eqF, h1, cntB]
    · by_cases h2 : nI (cntB m.testBit k) = n <;> simp (disch := omega) [mX6_nth_b4, c24, Option.bind_some, nI_leE, nI_ltE, nI_eqE, nI_1, nI_add, rdI_n, rdL_n, wrI_n, wrL_n, has6b, has9b, bI_0, bI_1, nI_m1, nI_lt0, nI_le0, nI_0le, nI_eq0, leF, leT, ltF, ltT, eqF, h1, h2, cntB]
  · simp (disch := omega) [mX6_nth_b4, c24, Option.bind_some, nI_leE, nI_ltE, nI_eqE, nI_1, nI_add, rdI_n, rdL_n, wrI_n, wrL_n, has6b, has9b, bI_0, bI_1, nI_m1, nI_lt0, nI_le0, nI_0le, nI_eq0, leF, leT, ltF, ltT, eqF]
  · rw [oI_def]
/-- the least of a set -/
def lo (m : Nat) : Nat := match fstB m.testBit 24 with
  | some k => k
  | none => 0
theorem lo_some {m : Nat} (hm : m < 2 ^ 24) (h0 : m ≠ 0) : fstB m.testBit 24 = some (lo m) := by
  unfold lo
  cases h : fstB m.testBit 24 with
  | some k => rfl
  | none =>
    refine absurd (mask_ext (fun i => ?_)) h0
    rw [Nat.zero_testBit]
    by_cases hi : i < 24
    · exact fstB_none.mp h i hi
    · cases hb : m.testBit i with
      | false => rfl
      | true => exact absurd (bit_lt hm hb) hi
theorem lo_bit {m : Nat} (hm : m < 2 ^ 24) (h0 : m ≠ 0) : m.testBit (lo m) = true ∧ lo m < 24 ∧ ∀ i, i < lo m → m.testBit i = false := by
  have := fstB_some.mp (lo_some hm h0)
  exact ⟨this.2.1, this.1, this.2.2⟩
theorem lo_uniq {m k : Nat} (hm : m < 2 ^ 24) (h1 : m.testBit k = true) (h2 : ∀ i, i < k → m.testBit i = false) : lo m = k := by
  have e : fstB m.testBit 24 = some k := fstB_some.mpr ⟨bit_lt hm h1, h1, h2⟩
  unfold lo
  rw [e]
theorem bit_ne0 {m k : Nat} (h : m.testBit k = true) : m ≠ 0 := by
  intro e
  rw [e, Nat.zero_testBit] at h
  cases h
theorem cnt0 {p : Nat → Bool} {k : Nat} : cntB p k = 0 ↔ ∀ i, i < k → p i = false := by
  induction k with
  | zero => exact ⟨fun _ i h => by omega, fun _ => rfl⟩
  | succ k ih =>
    simp only [cntB]
    cases h : p k with
    | true => exact ⟨fun g => by simp at g, fun g => by rw [g k (by omega)] at h; cases h⟩
    | false =>
      simp only [if_neg (show ¬ (false = true) by decide), Nat.add_zero]
      refine ih.trans ⟨fun g i hi => ?_, fun g i hi => g i (by omega)⟩
      rcases Nat.lt_succ_iff_lt_or_eq.mp hi with e | e
      · exact g i e
      · subst e; exact h
theorem least6 {F m : Nat} (hF : 1000 ≤ F) (hm : m < 2 ^ 31) : mX6_least F (nI m) = some (oI (fstB m.testBit 24)) := by
  unfold mX6_least
  rw [nth6 hF hm]
  simp only [Option.bind_some]
  congr 2
  cases h : fstB m.testBit 24 with
  | none =>
    rw [fstB_none] at h ⊢
    intro k hk
    simp [h k hk]
  | some l =>
    rw [fstB_some] at h ⊢
    refine ⟨h.1, ?_, fun i hi => by simp [h.2.2 i hi]⟩
    have e : cntB m.testBit l = 0 := cnt0.mpr h.2.2
    simp [h.2.1, e]
    rfl
theorem least6s {F m : Nat} (hF : 1000 ≤ F) (hm : m < 2 ^ 24) (h0 : m ≠ 0) : mX6_least F (nI m) = some (nI (lo m)) := by
  rw [least6 hF (by omega), lo_some hm h0]
  rfl
theorem least9s {F m : Nat} (hF : 1000 ≤ F) (hm : m < 2 ^ 24) (h0 : m ≠ 0) : mX9_least F (nI m) = some (nI (lo m)) := by
  have ⟨h1, h2, h3⟩ := lo_bit hm h0
  have hm2 : m < 2 ^ 31 := by omega
  unfold mX9_least
  refine (lpS nI m.testBit 24 nI (-1) rfl (fun k hk _ => ?_) (fun h => ?_) (by omega)).trans ?_
  · cases g : m.testBit k <;> simp (disch := omega) [mX9_least_b2, Option.bind_some, nI_leE, nI_ltE, nI_eqE, nI_1, nI_add, rdI_n, rdL_n, wrI_n, wrL_n, has6b, has9b, bI_0, bI_1, nI_m1, nI_lt0, nI_le0, nI_0le, nI_eq0, leF, leT, ltF, ltT, eqF, g]
  · rw [h _ h2] at h1; cases h1
  · rw [lo_some hm h0]
theorem bits9 {F m : Nat} (hF : 1000 ≤ F) (hm : m < 2 ^ 31) : mX9_bits F (nI m) = some (nI (cntB m.testBit 24)) := by
  unfold mX9_bits
  refine lp (fun k => (nI (cntB m.testBit k), nI k)) 0 24 _ (by omega) rfl (fun k _ hk => ?_) ?_ (by omega)
  · cases h1 : m.testBit k <;> simp (disch := omega) [mX9_bits_b4, c24, Option.bind_some, nI_leE, nI_ltE, nI_eqE, nI_1, nI_add, rdI_n, rdL_n, wrI_n, wrL_n, has6b, has9b, bI_0, bI_1, nI_m1, nI_lt0, nI_le0, nI_0le, nI_eq0, leF, leT, ltF, ltT, eqF, h1, cntB]
  · simp (disch := omega) [mX9_bits_b4, c24, Option.bind_some, nI_leE, nI_ltE, nI_eqE, nI_1, nI_add, rdI_n, rdL_n, wrI_n, wrL_n, has6b, has9b, bI_0, bI_1, nI_m1, nI_lt0, nI_le0, nI_0le, nI_eq0, leF, leT, ltF, ltT, eqF]
/-- roots -/
def rt (v : Nat) : Nat := match fstB (fun r => decide (v < (r + 1) * (r + 1))) 2048 with
  | some k => k
  | none => 0
theorem rt_some {v : Nat} (h : v < 4194304) : fstB (fun r => decide (v < (r + 1) * (r + 1))) 2048 = some (rt v) := by
  unfold rt
  cases e : fstB (fun r => decide (v < (r + 1) * (r + 1))) 2048 with
  | some k => rfl
  | none =>
    have := fstB_none.mp e 2047 (by omega)
    simp at this
    omega
theorem rt_spec {v : Nat} (h : v < 4194304) : rt v * rt v ≤ v ∧ v < (rt v + 1) * (rt v + 1) ∧ rt v < 2048 := by
  have ⟨h1, h2, h3⟩ := fstB_some.mp (rt_some h)
  refine ⟨?_, of_decide_eq_true h2, h1⟩
  cases e : rt v with
  | zero => omega
  | succ r =>
    have := h3 r (by omega)
    simp at this
    exact this
theorem rt_uniq {v r : Nat} (h1 : r * r ≤ v) (h2 : v < (r + 1) * (r + 1)) (h : v < 4194304) : rt v = r := by
  have ⟨g1, g2, g3⟩ := rt_spec h
  rcases Nat.lt_trichotomy (rt v) r with e | e | e
  · have : (rt v + 1) * (rt v + 1) ≤ r * r := Nat.mul_le_mul (by omega) (by omega)
    omega
  · exact e
  · have : (r + 1) * (r + 1) ≤ rt v * rt v := Nat.mul_le_mul (by omega) (by omega)
    omega
theorem rt_mono {v w : Nat} (h : v ≤ w) (hw : w < 4194304) : rt v ≤ rt w := by
  have ⟨g1, g2, g3⟩ := rt_spec (v := v) (by omega)
  have ⟨k1, k2, k3⟩ := rt_spec hw
  refine Nat.le_of_not_lt (fun e => ?_)
  have : (rt w + 1) * (rt w + 1) ≤ rt v * rt v := Nat.mul_le_mul (by omega) (by omega)
  omega
theorem sqn_lt {a : Nat} (h : a ≤ 4095) : a * a ≤ 16769025 := Nat.mul_le_mul h h
theorem root9 {F v : Nat} (hF : 5000 ≤ F) (hv : v < 4194304) : mX9_root F (nI v) = some (nI (rt v)) := by
  unfold mX9_root
  refine (lpS nI (fun r => decide (v < (r + 1) * (r + 1))) 2048 nI (-1) rfl (fun k hk _ => ?_) (fun h => ?_) (by omega)).trans ?_
  · have := sqn_lt (a := k + 1) (by omega)
    by_cases g : v < (k + 1) * (k + 1) <;> simp (disch := omega) [mX9_root_b2, Option.bind_some, nI_leE, nI_ltE, nI_eqE, nI_1, nI_add, rdI_n, rdL_n, wrI_n, wrL_n, has6b, has9b, bI_0, bI_1, nI_m1, nI_lt0, nI_le0, nI_0le, nI_eq0, leF, leT, ltF, ltT, eqF, pk_mul, g]
  · have := h 2047 (by omega)
    simp at this
    omega
  · rw [rt_some hv]
theorem root6 {F v : Nat} (hF : 1000 ≤ F) (hv : v < 4194304) : mX6_root F (nI v) = some (nI (rt v)) := by
  unfold mX6_root
  refine Exists.elim (lpI (body := fun s5 : Int32 × Int32 => mX6_root_b5 F (nI v) s5.1 s5.2) (F := F) (fun k (r : Nat) => (nI r, dn (11 - k)))
    (fun k r => r * r ≤ v ∧ v < (r + 2 ^ (11 - k)) * (r + 2 ^ (11 - k))) 0 11 nI 0 (by omega) (s0 := ((0 : Int32), (10 : Int32))) rfl
    ⟨by omega, by simpa using hv⟩ (fun k r _ hk hI => ?_) (fun r _ => ?_) (by omega)) ?_
  rotate_right 1
  · intro r hh_; obtain ⟨e, h1, h2⟩ := hh_
    rw [e, rt_uniq h1 (by simpa using h2) hv]
  · have hr : r < 2048 := by
      refine Nat.lt_of_not_le (fun g => ?_)
      have : 2048 * 2048 ≤ r * r := Nat.mul_le_mul g g
      omega
    have e11 : 11 - k = (10 - k) + 1 := by omega
    have hp : 2 ^ (10 - k) ≤ 2 ^ 10 := Nat.pow_le_pow_right (by omega) (by omega)
    have hm := sqn_lt (a := r + 2 ^ (10 - k)) (by omega)
    have hd : dn (11 - k) = nI (10 - k) := (congrArg dn e11).trans rfl
    have hd2 : nI (10 - k) + -1 = dn (11 - (k + 1)) := dn_pred.trans (congrArg dn (by omega))
    have hb : (1 : Int32) <<< (nI (10 - k) &&& 31) = nI (2 ^ (10 - k)) := nI_bit (by omega)
    by_cases g : v < (r + 2 ^ (10 - k)) * (r + 2 ^ (10 - k))
    · refine ⟨r, ?_, hI.1, ?_⟩
      · simp (disch := omega) [mX6_root_b5, Option.bind_some, nI_leE, nI_ltE, nI_eqE, nI_1, nI_add, rdI_n, rdL_n, wrI_n, wrL_n, has6b, has9b, bI_0, bI_1, nI_m1, nI_lt0, nI_le0, nI_0le, nI_eq0, leF, leT, ltF, ltT, eqF, hd, hd2, hb, pk_mul, g]
      · rw [show 11 - (k + 1) = 10 - k by omega]; exact g
    · refine ⟨r + 2 ^ (10 - k), ?_, by omega, ?_⟩
      · simp (disch := omega) [mX6_root_b5, Option.bind_some, nI_leE, nI_ltE, nI_eqE, nI_1, nI_add, rdI_n, rdL_n, wrI_n, wrL_n, has6b, has9b, bI_0, bI_1, nI_m1, nI_lt0, nI_le0, nI_0le, nI_eq0, leF, leT, ltF, ltT, eqF, hd, hd2, hb, pk_mul, g]
      · have h3 := hI.2
        rw [e11, Nat.pow_succ] at h3
        rw [show 11 - (k + 1) = 10 - k by omega, show r + 2 ^ (10 - k) + 2 ^ (10 - k) = r + 2 ^ (10 - k) * 2 by omega]
        exact h3
  · simp [mX6_root_b5, dn, m1_lt0]
theorem minI {a b : Nat} (ha : a < 2 ^ 31) (hb : b < 2 ^ 31) : (if nI b < nI a then nI b else nI a) = nI (min a b) := by
  by_cases h : b < a
  · rw [if_pos ((nI_ltI hb ha).mpr h), Nat.min_eq_right (by omega)]
  · rw [if_neg (fun g => h ((nI_ltI hb ha).mp g)), Nat.min_eq_left (by omega)]
theorem maxI {a b : Nat} (ha : a < 2 ^ 31) (hb : b < 2 ^ 31) : (if nI a < nI b then nI b else nI a) = nI (max a b) := by
  by_cases h : a < b
  · rw [if_pos ((nI_ltI ha hb).mpr h), Nat.max_eq_right (by omega)]
  · rw [if_neg (fun g => h ((nI_ltI ha hb).mp g)), Nat.max_eq_left (by omega)]
/-- a pair as one number -/
def kf (X Y : Nat → Nat) (p q : Nat) : Nat := ap X Y p q * 1024 + min p q * 32 + max p q
theorem kf_comm (X Y : Nat → Nat) (p q : Nat) : kf X Y p q = kf X Y q p := by unfold kf; rw [ap_comm, Nat.min_comm, Nat.max_comm]
theorem kf_ap {X Y : Nat → Nat} {p q : Nat} (hp : p < 32) (hq : q < 32) : kf X Y p q / 1024 = ap X Y p q := by unfold kf; omega
theorem kf_min {X Y : Nat → Nat} {p q : Nat} (hp : p < 32) (hq : q < 32) : kf X Y p q / 32 % 32 = min p q := by unfold kf; omega
theorem kf_max {X Y : Nat → Nat} {p q : Nat} (hp : p < 32) (hq : q < 32) : kf X Y p q % 32 = max p q := by unfold kf; omega
theorem sooner9 {F N p q r s : Nat} {X Y : Nat → Nat} {xs ys : Nat → Int32} (hN : N ≤ 24) (hP : PT N X Y xs ys) (hI : IN N X Y) (hp : p < N) (hq : q < N) (hr : r < N) (hs : s < N) :
    mX9_isSooner F (nI p) (nI q) (nI r) (nI s) xs ys = some (bI (decide (kf X Y p q < kf X Y r s))) := by
  have a1 := ap_lt (hI p hp).1 (hI q hq).1 (hI p hp).2 (hI q hq).2
  have a2 := ap_lt (hI r hr).1 (hI s hs).1 (hI r hr).2 (hI s hs).2
  unfold mX9_isSooner
  rw [apart9 hN hP hI hp hq, apart9 hN hP hI hr hs]
  simp (disch := omega) only [Option.bind_some, minI, maxI, nI_eqE, nI_leE]
  by_cases h1 : ap X Y p q = ap X Y r s
  · rw [if_pos h1]
    by_cases h2 : min p q = min r s
    · rw [if_pos h2]
      by_cases h3 : max r s ≤ max p q
      · rw [if_pos h3, show decide (kf X Y p q < kf X Y r s) = false from decide_eq_false (by unfold kf; omega)]; rfl
      · rw [if_neg h3, show decide (kf X Y p q < kf X Y r s) = true from decide_eq_true (by unfold kf; omega)]; rfl
    · rw [if_neg h2]
      by_cases h3 : min r s ≤ min p q
      · rw [if_pos h3, show decide (kf X Y p q < kf X Y r s) = false from decide_eq_false (by unfold kf; omega)]; rfl
      · rw [if_neg h3, show decide (kf X Y p q < kf X Y r s) = true from decide_eq_true (by unfold kf; omega)]; rfl
  · rw [if_neg h1]
    by_cases h3 : ap X Y r s ≤ ap X Y p q
    · rw [if_pos h3, show decide (kf X Y p q < kf X Y r s) = false from decide_eq_false (by unfold kf; omega)]; rfl
    · rw [if_neg h3, show decide (kf X Y p q < kf X Y r s) = true from decide_eq_true (by unfold kf; omega)]; rfl
/-- longs -/
theorem lN_tn {n : Nat} (h : n < 2 ^ 64) : (lN n).toBitVec.toNat = n := Nat.mod_eq_of_lt h
theorem lN_ti {n : Nat} (h : n < 2 ^ 63) : (lN n).toInt = (n : Int) := lg_ofNat_toInt h
theorem lN_leE {a b : Nat} (ha : a < 2 ^ 63) (hb : b < 2 ^ 63) : (lN a ≤ lN b) = (a ≤ b) := by
  apply propext
  rw [Int64.le_iff_toInt_le, lN_ti ha, lN_ti hb]; omega
theorem lN_ltE {a b : Nat} (ha : a < 2 ^ 63) (hb : b < 2 ^ 63) : (lN a < lN b) = (a < b) := by
  apply propext
  rw [Int64.lt_iff_toInt_lt, lN_ti ha, lN_ti hb]; omega
theorem lN_eqE {a b : Nat} (ha : a < 2 ^ 63) (hb : b < 2 ^ 63) : (lN a = lN b) = (a = b) := by
  apply propext
  rw [← Int64.toInt_inj, lN_ti ha, lN_ti hb]; omega
theorem lN_or {a b : Nat} (ha : a < 2 ^ 63) (hb : b < 2 ^ 63) : lN a ||| lN b = lN (a ||| b) := by
  apply Int64.toBitVec_inj.mp
  apply BitVec.eq_of_toNat_eq
  have hlt : a ||| b < 2 ^ 63 := Nat.or_lt_two_pow ha hb
  rw [Int64.toBitVec_or, BitVec.toNat_or, lN_tn (by omega), lN_tn (by omega), lN_tn (by omega)]
theorem lN_and {a b : Nat} (ha : a < 2 ^ 63) (hb : b < 2 ^ 63) : lN a &&& lN b = lN (a &&& b) := by
  apply Int64.toBitVec_inj.mp
  apply BitVec.eq_of_toNat_eq
  have hlt : a &&& b ≤ a := Nat.and_le_left
  rw [Int64.toBitVec_and, BitVec.toNat_and, lN_tn (by omega), lN_tn (by omega), lN_tn (by omega)]
theorem lN_shl {n : Nat} (s : Int64) (k : Nat) (hs : (s.toBitVec.smod 64).toNat = k) (h : n * 2 ^ k < 2 ^ 63) : lN n <<< s = lN (n * 2 ^ k) := by
  have hn : n < 2 ^ 64 := Nat.lt_of_le_of_lt (Nat.le_mul_of_pos_right n (Nat.two_pow_pos k)) (Nat.lt_trans h (by omega))
  apply Int64.toBitVec_inj.mp
  apply BitVec.eq_of_toNat_eq
  show ((lN n).toBitVec <<< (s.toBitVec.smod 64).toNat).toNat = _
  rw [hs, BitVec.toNat_shiftLeft, Nat.shiftLeft_eq, lN_tn hn, lN_tn (by omega), Nat.mod_eq_of_lt (by omega)]
theorem lN_shr {n : Nat} (h : n < 2 ^ 63) (s : Int64) (k : Nat) (hs : (s.toBitVec.smod 64).toNat = k) : lN n >>> s = lN (n / 2 ^ k) := by
  apply Int64.toInt_inj.mp
  have h2 : n / 2 ^ k ≤ n := Nat.div_le_self _ _
  show ((lN n).toBitVec.sshiftRight (s.toBitVec.smod 64).toNat).toInt = _
  rw [hs, BitVec.toInt_sshiftRight]
  show (lN n).toInt >>> k = _
  rw [lN_ti h, lN_ti (by omega), Int.shiftRight_eq_div_pow]
  rfl
theorem s64_5 : (((((5 : Int32)).toInt64 &&& 63 : Int64)).toBitVec.smod 64).toNat = 5 := by decide +kernel
theorem s64_10 : (((((10 : Int32)).toInt64 &&& 63 : Int64)).toBitVec.smod 64).toNat = 10 := by decide +kernel
theorem s64_20 : (((((20 : Int32)).toInt64 &&& 63 : Int64)).toBitVec.smod 64).toNat = 20 := by decide +kernel
theorem s32_5 : ((((5 : Int32) &&& 31)).toBitVec.smod 32).toNat = 5 := by decide +kernel
theorem or_add {a b k : Nat} (hb : b < 2 ^ k) : a * 2 ^ k ||| b = a * 2 ^ k + b := by
  rw [← Nat.shiftLeft_eq, Nat.shiftLeft_add_eq_or_of_lt hb]
theorem key2 {F N p q : Nat} {X Y : Nat → Nat} {xs ys : Nat → Int32} (hN : N ≤ 24) (hP : PT N X Y xs ys) (hI : IN N X Y) (hp : p < N) (hq : q < N) :
    mX2_keyOf F (nI p) (nI q) xs ys = some (lN (kf X Y p q)) := by
  have a1 := ap_lt (hI p hp).1 (hI q hq).1 (hI p hp).2 (hI q hq).2
  unfold mX2_keyOf
  rw [apart4 hN hP hI hp hq]
  have e5 : nI (min p q) <<< ((5 : Int32) &&& 31) = nI (min p q * 2 ^ 5) := pk_shlN _ 5 s32_5 (by omega)
  have e10 : lN (ap X Y p q) <<< (((10 : Int32)).toInt64 &&& 63) = lN (ap X Y p q * 2 ^ 10) := lN_shl _ 10 s64_10 (by omega)
  simp (disch := omega) only [Option.bind_some, minI, maxI, nI_l, e5, e10]
  rw [lN_or (by omega) (by omega), or_add (by omega)]
  have e : ap X Y p q * 2 ^ 10 + min p q * 2 ^ 5 = (ap X Y p q * 32 + min p q) * 2 ^ 5 := by omega
  rw [e, lN_or (by omega) (by omega), or_add (by omega)]
  congr 2
  unfold kf
  omega
