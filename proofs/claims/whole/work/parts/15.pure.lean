/-! ===== PURE 6: guards, points that come and go ===== -/
theorem isIn9 (F : Nat) (x a b : Int64) : mX9_isIn F x a b = some (bI (decide (a.toInt ≤ x.toInt ∧ x.toInt ≤ b.toInt))) := by
  unfold mX9_isIn
  by_cases h1 : x < a
  · rw [if_pos ((lg_cmp_lt _ _).mpr h1)]
    have := Int64.lt_iff_toInt_lt.mp h1
    rw [show decide (a.toInt ≤ x.toInt ∧ x.toInt ≤ b.toInt) = false by simp; omega]; rfl
  · rw [if_neg (fun h => h1 ((lg_cmp_lt _ _).mp h))]
    have g1 : ¬ x.toInt < a.toInt := fun h => h1 (Int64.lt_iff_toInt_lt.mpr h)
    by_cases h2 : b < x
    · rw [if_pos ((lg_cmp_gt _ _).mpr h2)]
      have := Int64.lt_iff_toInt_lt.mp h2
      rw [show decide (a.toInt ≤ x.toInt ∧ x.toInt ≤ b.toInt) = false by simp; omega]; rfl
    · rw [if_neg (fun h => h2 ((lg_cmp_gt _ _).mp h))]
      have g2 : ¬ b.toInt < x.toInt := fun h => h2 (Int64.lt_iff_toInt_lt.mpr h)
      rw [show decide (a.toInt ≤ x.toInt ∧ x.toInt ≤ b.toInt) = true by simp; omega]; rfl
theorem isInI9 (F : Nat) (x : Int32) (a b : Int64) : mX9_isIn F x.toInt64 a b = some (bI (decide (a.toInt ≤ x.toInt ∧ x.toInt ≤ b.toInt))) := by
  rw [isIn9, Int32.toInt_toInt64]
theorem l_0 : (0 : Int64).toInt = 0 := by decide +kernel
theorem l_1 : (1 : Int64).toInt = 1 := by decide +kernel
theorem l_2 : (2 : Int64).toInt = 2 := by decide +kernel
theorem l_3 : (3 : Int64).toInt = 3 := by decide +kernel
theorem l_9 : (9 : Int64).toInt = 9 := by decide +kernel
theorem l_10 : (10 : Int64).toInt = 10 := by decide +kernel
theorem l_24 : (24 : Int64).toInt = 24 := by decide +kernel
theorem l_99 : (99 : Int64).toInt = 99 := by decide +kernel
theorem l_999 : (999 : Int64).toInt = 999 := by decide +kernel
theorem l_1023 : (1023 : Int64).toInt = 1023 := by decide +kernel
theorem l_9999 : (9999 : Int64).toInt = 9999 := by decide +kernel
theorem l_m9999 : (-9999 : Int64).toInt = -9999 := by decide +kernel
theorem i_m9999 : (-9999 : Int32).toInt = -9999 := by decide +kernel
theorem i_9999 : (9999 : Int32).toInt = 9999 := by decide +kernel
theorem nl_1 {N : Nat} (hN : N < 2 ^ 31) : ((nI N).toInt64 - (1 : Int64)).toInt = (N : Int) - 1 := by
  have e : (1 : Int64) = (1 : Int32).toInt64 := by decide +kernel
  rw [e, lg_i2l_sub, nI_toInt hN]
  rfl
/-- an int is a point's number, or it isn't -/
theorem pt_or (a : Int32) {N : Nat} (hN : N < 2 ^ 31) : (∃ p, p < N ∧ a = nI p) ∨ (a.toInt < 0 ∨ (N : Int) ≤ a.toInt) := by
  by_cases h : 0 ≤ a.toInt ∧ a.toInt < N
  · exact Or.inl ⟨a.toInt.toNat, by omega, tI_nI h.1⟩
  · exact Or.inr (by omega)
theorem isPoint8 (F : Nat) {N : Nat} (hN : N ≤ 24) (a : Int32) : mX8_isPoint F a (nI N) = some (bI (decide (0 ≤ a.toInt ∧ a.toInt < N))) := by
  unfold mX8_isPoint
  by_cases h1 : a < 0
  · rw [if_pos h1]
    have : a.toInt < 0 := tI_lt.mp h1
    rw [show decide (0 ≤ a.toInt ∧ a.toInt < N) = false by simp; omega]; rfl
  · rw [if_neg h1]
    have g1 : ¬ a.toInt < 0 := fun h => h1 (tI_lt.mpr h)
    by_cases h2 : nI N ≤ a
    · rw [if_pos h2]
      have := tI_le.mp h2
      rw [tI_n (by omega)] at this
      rw [show decide (0 ≤ a.toInt ∧ a.toInt < N) = false by simp; omega]; rfl
    · rw [if_neg h2]
      have g2 : ¬ (nI N).toInt ≤ a.toInt := fun h => h2 (tI_le.mpr h)
      rw [tI_n (by omega)] at g2
      rw [show decide (0 ≤ a.toInt ∧ a.toInt < N) = true by simp; omega]; rfl
theorem isPoint9 (F : Nat) {N : Nat} (hN : N ≤ 24) (a : Int32) : mX9_isPoint F a (nI N) = some (bI (decide (0 ≤ a.toInt ∧ a.toInt < N))) := by
  unfold mX9_isPoint
  rw [isInI9, l_0, nl_1 (by omega)]
  simp only [Option.bind_some]
  congr 2
  apply decide_eq_decide.mpr
  omega
theorem rng8 (x l h : Int32) : (if x < l then (some (0 : Int32)) else (if h < x then (some (0 : Int32)) else (some (1 : Int32)))) = some (bI (decide (l.toInt ≤ x.toInt ∧ x.toInt ≤ h.toInt))) := by
  by_cases h1 : x < l
  · have := tI_lt.mp h1
    rw [if_pos h1, show decide (l.toInt ≤ x.toInt ∧ x.toInt ≤ h.toInt) = false from decide_eq_false (by omega)]; rfl
  · have g1 : ¬ x.toInt < l.toInt := fun q => h1 (tI_lt.mpr q)
    rw [if_neg h1]
    by_cases h2 : h < x
    · have := tI_lt.mp h2
      rw [if_pos h2, show decide (l.toInt ≤ x.toInt ∧ x.toInt ≤ h.toInt) = false from decide_eq_false (by omega)]; rfl
    · have g2 : ¬ h.toInt < x.toInt := fun q => h2 (tI_lt.mpr q)
      rw [if_neg h2, show decide (l.toInt ≤ x.toInt ∧ x.toInt ≤ h.toInt) = true from decide_eq_true (by omega)]; rfl
theorem i_0 : (0 : Int32).toInt = 0 := by decide +kernel
theorem i_1 : (1 : Int32).toInt = 1 := by decide +kernel
theorem i_10 : (10 : Int32).toInt = 10 := by decide +kernel
theorem i_99 : (99 : Int32).toInt = 99 := by decide +kernel
theorem isWeight8 (F : Nat) (a : Int32) : mX8_isWeight F a = some (bI (decide (1 ≤ a.toInt ∧ a.toInt ≤ 99))) := by
  unfold mX8_isWeight
  rw [rng8, i_1, i_99]
theorem isZoom8 (F : Nat) (a : Int32) : mX8_isZoom F a = some (bI (decide (0 ≤ a.toInt ∧ a.toInt ≤ 10))) := by
  unfold mX8_isZoom
  rw [rng8, i_0, i_10]
theorem isZoom9 (F : Nat) (a : Int32) : mX9_isZoom F a = some (bI (decide (0 ≤ a.toInt ∧ a.toInt ≤ 10))) := by
  unfold mX9_isZoom
  rw [isInI9, l_0, l_10]
  rfl
theorem isNear8 (F : Nat) (a : Int32) : mX8_isNearPlace F a = some (bI (decide (-9999 ≤ a.toInt ∧ a.toInt ≤ 9999))) := by
  unfold mX8_isNearPlace
  rw [rng8, i_m9999, i_9999]
/-- whether a point can come -/
def canB (N : Nat) (xs ys : Nat → Int32) (a b : Int32) : Bool :=
  decide (0 ≤ a.toInt ∧ a.toInt < 1024 ∧ 0 ≤ b.toInt ∧ b.toInt < 1024 ∧ N < 24) && decide (fstB (fun i => decide (xs i = a) && decide (ys i = b)) N = none)
theorem fst_m1 {p : Nat → Bool} {N : Nat} (hN : N ≤ 24) : (oI (fstB p N) = -1) = (fstB p N = none) := oI_m1 (fun k h => by have := fstB_lt h; omega)
theorem canCome4 {F N : Nat} (hF : 1000 ≤ F) (hN : N ≤ 24) (a b : Int32) (xs ys : Nat → Int32) : mX4_canCome F a b (nI N) xs ys = some (bI (canB N xs ys a b)) := by
  unfold mX4_canCome canB
  rw [find4 hF hN]
  simp only [c0, c1024, c24, tI_lt, tI_le, tI_n (show (0 : Nat) < 2 ^ 31 by omega), tI_n (show (1024 : Nat) < 2 ^ 31 by omega), tI_n (show (24 : Nat) < 2 ^ 31 by omega), tI_n (show N < 2 ^ 31 by omega), Option.bind_some, fst_m1 hN]
  by_cases h1 : a.toInt < (0 : Nat)
  · rw [if_pos h1, show decide (0 ≤ a.toInt ∧ a.toInt < 1024 ∧ 0 ≤ b.toInt ∧ b.toInt < 1024 ∧ N < 24) = false by simp; omega]; rfl
  · rw [if_neg h1]
    by_cases h2 : ((1024 : Nat) : Int) ≤ a.toInt
    · rw [if_pos h2, show decide (0 ≤ a.toInt ∧ a.toInt < 1024 ∧ 0 ≤ b.toInt ∧ b.toInt < 1024 ∧ N < 24) = false by simp; omega]; rfl
    · rw [if_neg h2]
      by_cases h3 : b.toInt < (0 : Nat)
      · rw [if_pos h3, show decide (0 ≤ a.toInt ∧ a.toInt < 1024 ∧ 0 ≤ b.toInt ∧ b.toInt < 1024 ∧ N < 24) = false by simp; omega]; rfl
      · rw [if_neg h3]
        by_cases h4 : ((1024 : Nat) : Int) ≤ b.toInt
        · rw [if_pos h4, show decide (0 ≤ a.toInt ∧ a.toInt < 1024 ∧ 0 ≤ b.toInt ∧ b.toInt < 1024 ∧ N < 24) = false by simp; omega]; rfl
        · rw [if_neg h4]
          by_cases h5 : ((24 : Nat) : Int) ≤ N
          · rw [if_pos h5, show decide (0 ≤ a.toInt ∧ a.toInt < 1024 ∧ 0 ≤ b.toInt ∧ b.toInt < 1024 ∧ N < 24) = false by simp; omega]; rfl
          · rw [if_neg h5, show decide (0 ≤ a.toInt ∧ a.toInt < 1024 ∧ 0 ≤ b.toInt ∧ b.toInt < 1024 ∧ N < 24) = true by simp; omega]
            split <;> rename_i h6 <;> simp [h6] <;> rfl
theorem canCome9 {F N : Nat} (hF : 1000 ≤ F) (hN : N ≤ 24) (a b : Int32) (xs ys : Nat → Int32) : mX9_canCome F a b (nI N) xs ys = some (bI (canB N xs ys a b)) := by
  unfold mX9_canCome canB
  rw [find9 hF hN]
  simp only [isInI9, l_0, l_1023, c24, tI_le, tI_n (show (24 : Nat) < 2 ^ 31 by omega), tI_n (show N < 2 ^ 31 by omega), Option.bind_some, fst_m1 hN, bI_0]
  by_cases h5 : ((24 : Nat) : Int) ≤ N
  · rw [if_pos h5, show decide (0 ≤ a.toInt ∧ a.toInt < 1024 ∧ 0 ≤ b.toInt ∧ b.toInt < 1024 ∧ N < 24) = false by simp; omega]; rfl
  · rw [if_neg h5]
    by_cases h1 : 0 ≤ a.toInt ∧ a.toInt ≤ 1023
    · rw [if_neg (by simp; omega)]
      by_cases h2 : 0 ≤ b.toInt ∧ b.toInt ≤ 1023
      · rw [if_neg (by simp; omega), show decide (0 ≤ a.toInt ∧ a.toInt < 1024 ∧ 0 ≤ b.toInt ∧ b.toInt < 1024 ∧ N < 24) = true by simp; omega]
        split <;> rename_i h6 <;> simp [h6] <;> rfl
      · rw [if_pos (by simp; omega), show decide (0 ≤ a.toInt ∧ a.toInt < 1024 ∧ 0 ≤ b.toInt ∧ b.toInt < 1024 ∧ N < 24) = false by simp; omega]; rfl
    · rw [if_pos (by simp; omega), show decide (0 ≤ a.toInt ∧ a.toInt < 1024 ∧ 0 ≤ b.toInt ∧ b.toInt < 1024 ∧ N < 24) = false by simp; omega]; rfl
/-- where a point comes in: behind all that don't come after it -/
def ipB (X Y : Nat → Nat) (a b N : Nat) : Nat := match lstB (fun k => decide (X k < a ∨ X k = a ∧ Y k ≤ b)) N with
  | some k => k + 1
  | none => 0
theorem ip_spec {X Y : Nat → Nat} {a b N : Nat} : ipB X Y a b N ≤ N ∧ (∀ j, ipB X Y a b N ≤ j → j < N → a < X j ∨ X j = a ∧ b < Y j) ∧ (0 < ipB X Y a b N → X (ipB X Y a b N - 1) < a ∨ X (ipB X Y a b N - 1) = a ∧ Y (ipB X Y a b N - 1) ≤ b) := by
  unfold ipB
  cases h : lstB (fun k => decide (X k < a ∨ X k = a ∧ Y k ≤ b)) N with
  | none =>
    refine ⟨Nat.zero_le _, fun j h1 h2 => ?_, fun h => by simp at h⟩
    have := lstB_none.mp h j h2
    simp at this
    omega
  | some k =>
    have ⟨h1, h2, h3⟩ := lstB_some.mp h
    refine ⟨by simp; omega, fun j g1 g2 => ?_, fun _ => ?_⟩
    · simp at g1
      have := h3 j (by omega) g2
      simp at this
      omega
    · simp at h2 ⊢
      exact h2
def insB (f : Nat → Nat) (i v : Nat) : Nat → Nat := fun j => if j < i then f j else if j = i then v else f (j - 1)
def delB (f : Nat → Nat) (i : Nat) : Nat → Nat := fun j => if j < i then f j else f (j + 1)
def T3 : Type := (Nat → Int32) × (Nat → Int32) × (Nat → Int32)
/-- three rows while a place is being made at i -/
def gapT (N : Nat) (W X Y : Nat → Nat) (i : Nat) (t : T3) : Prop :=
  ∀ j, j ≤ N → (j < i → t.1 j = nI (W j) ∧ t.2.1 j = nI (X j) ∧ t.2.2 j = nI (Y j)) ∧ (i < j → t.1 j = nI (W (j - 1)) ∧ t.2.1 j = nI (X (j - 1)) ∧ t.2.2 j = nI (Y (j - 1)))
theorem gap_step {N : Nat} {W X Y : Nat → Nat} {i : Nat} {t : T3} (hi : 0 < i) (h : gapT N W X Y i t) (hN : i ≤ N) : gapT N W X Y (i - 1) (upd t.1 i (t.1 (i - 1)), upd t.2.1 i (t.2.1 (i - 1)), upd t.2.2 i (t.2.2 (i - 1))) := by
  intro j hj
  have ⟨h1, h2⟩ := h j hj
  have ⟨g1, g2⟩ := h (i - 1) (by omega)
  refine ⟨fun e => ?_, fun e => ?_⟩
  · simp only [pk_un (show j ≠ i by omega)]
    exact h1 (by omega)
  · by_cases e2 : j = i
    · subst e2
      simp only [pk_us]
      exact g1 (by omega)
    · simp only [pk_un e2]
      exact h2 (by omega)
theorem gap_0 {N : Nat} {W X Y : Nat → Nat} {ws xs ys : Nat → Int32} (h : ∀ i, i < N → ws i = nI (W i) ∧ xs i = nI (X i) ∧ ys i = nI (Y i)) : gapT N W X Y N (ws, xs, ys) := by
  intro j hj
  exact ⟨fun e => h j e, fun e => by omega⟩
theorem gap_end {N : Nat} {W X Y : Nat → Nat} {i w a b : Nat} {t : T3} (h : gapT N W X Y i t) (hi : i ≤ N) : ∀ j, j < N + 1 → upd t.1 i (nI w) j = nI (insB W i w j) ∧ upd t.2.1 i (nI a) j = nI (insB X i a j) ∧ upd t.2.2 i (nI b) j = nI (insB Y i b j) := by
  intro j hj
  have ⟨h1, h2⟩ := h j (by omega)
  unfold insB
  by_cases e1 : j < i
  · simp only [pk_un (show j ≠ i by omega), if_pos e1]; exact h1 e1
  · by_cases e2 : j = i
    · subst e2; simp only [pk_us, if_neg e1, if_true, and_self]
    · simp only [pk_un e2, if_neg e1, if_neg e2]; exact h2 (by omega)
theorem put4 {F N a b w : Nat} {X Y W : Nat → Nat} {ws xs ys : Nat → Int32} (hF : 1000 ≤ F) (hN : N < 24) (ha : a < 1024) (hb : b < 1024) (hI : IN N X Y)
    (hP : ∀ i, i < N → ws i = nI (W i) ∧ xs i = nI (X i) ∧ ys i = nI (Y i)) :
    ∃ ws' xs' ys', mX4_put F (nI a) (nI b) (nI w) (nI N) ws xs ys = some (nI (N + 1), ws', xs', ys') ∧
      ∀ i, i < N + 1 → ws' i = nI (insB W (ipB X Y a b N) w i) ∧ xs' i = nI (insB X (ipB X Y a b N) a i) ∧ ys' i = nI (insB Y (ipB X Y a b N) b i) := by
  have ⟨s1, s2, s3⟩ := ip_spec (X := X) (Y := Y) (a := a) (b := b) (N := N)
  generalize ipB X Y a b N = i0 at s1 s2 s3 ⊢
  unfold mX4_put
  rw [if_pos (by rw [c24, nI_ltE (by omega) (by omega)]; exact hN)]
  refine Exists.elim (lpI (body := fun s16 : Int32 × (Nat → Int32) × (Nat → Int32) × (Nat → Int32) => mX4_put_b16 F (nI a) (nI b) s16.1 s16.2.1 s16.2.2.1 s16.2.2.2) (F := F)
    (fun k (t : T3) => (nI (N - k), t.1, t.2.1, t.2.2)) (fun k t => gapT N W X Y (N - k) t) 0 (N - i0) (fun t => (nI i0, t.1, t.2.1, t.2.2)) (ws, xs, ys) (by omega) (s0 := (nI N, ws, xs, ys)) rfl
    (gap_0 hP) (fun k t _ hk hI2 => ?_) (fun t hI2 => ?_) (by omega)) ?_
  rotate_right 1
  · intro t hh_; obtain ⟨e, hg⟩ := hh_
    rw [e]
    rw [show N - (N - i0) = i0 by omega] at hg
    refine ⟨upd t.1 i0 (nI w), upd t.2.1 i0 (nI a), upd t.2.2 i0 (nI b), ?_, gap_end hg s1⟩
    simp (disch := omega) only [Option.bind_some, nI_leE, nI_ltE, nI_eqE, nI_1, nI_add, rdI_n, rdL_n, wrI_n, wrL_n, has6b, has9b, bI_0, bI_1, nI_m1, nI_lt0, nI_le0, nI_0le, nI_eq0, leF, leT, ltF, ltT, eqF]
  · refine ⟨_, ?_, by have := gap_step (by omega) hI2 (by omega); rw [show N - k - 1 = N - (k + 1) by omega] at this; exact this⟩
    have ⟨g1, g2⟩ := (hI2 (N - (k + 1)) (by omega)).1 (by omega)
    have q := s2 (N - (k + 1)) (by omega) (by omega)
    have ⟨q1, q2⟩ := hI (N - (k + 1)) (by omega)
    have e1 : nI (N - k) - 1 = nI (N - (k + 1)) := nI_s1 (a := N - k) (by omega)
    have e2 : nI (N - k) + -1 = nI (N - (k + 1)) := nI_a1 (a := N - k) (by omega)
    by_cases h1 : a < X (N - (k + 1))
    · simp (disch := omega) [mX4_put_b16, mX4_move, Option.bind_some, nI_leE, nI_ltE, nI_eqE, nI_1, nI_add, rdI_n, rdL_n, wrI_n, wrL_n, has6b, has9b, bI_0, bI_1, nI_m1, nI_lt0, nI_le0, nI_0le, nI_eq0, leF, leT, ltF, ltT, eqF, e1, e2, g2, h1]
    · have h2 : X (N - (k + 1)) = a := by omega
      have h3 : ¬ Y (N - (k + 1)) ≤ b := by omega
      simp (disch := omega) [mX4_put_b16, mX4_move, Option.bind_some, nI_leE, nI_ltE, nI_eqE, nI_1, nI_add, rdI_n, rdL_n, wrI_n, wrL_n, has6b, has9b, bI_0, bI_1, nI_m1, nI_lt0, nI_le0, nI_0le, nI_eq0, leF, leT, ltF, ltT, eqF, e1, e2, g2, h1, h2, h3]
  · rw [show N - (N - i0) = i0 by omega] at hI2 ⊢
    by_cases h0 : i0 = 0
    · subst h0
      simp (disch := omega) [mX4_put_b16, Option.bind_some, nI_leE, nI_ltE, nI_eqE, nI_1, nI_add, rdI_n, rdL_n, wrI_n, wrL_n, has6b, has9b, bI_0, bI_1, nI_m1, nI_lt0, nI_le0, nI_0le, nI_eq0, leF, leT, ltF, ltT, eqF]
    · have ⟨g1, g2⟩ := (hI2 (i0 - 1) (by omega)).1 (by omega)
      have q := s3 (by omega)
      have ⟨q1, q2⟩ := hI (i0 - 1) (by omega)
      have e1 : nI i0 - 1 = nI (i0 - 1) := nI_s1 (by omega)
      by_cases h1 : X (i0 - 1) < a
      · have h2 : ¬ a < X (i0 - 1) := by omega
        have h3 : ¬ X (i0 - 1) = a := by omega
        simp (disch := omega) [mX4_put_b16, Option.bind_some, nI_leE, nI_ltE, nI_eqE, nI_1, nI_add, rdI_n, rdL_n, wrI_n, wrL_n, has6b, has9b, bI_0, bI_1, nI_m1, nI_lt0, nI_le0, nI_0le, nI_eq0, leF, leT, ltF, ltT, eqF, e1, g2, h2, h3, h0]
      · have h2 : X (i0 - 1) = a := by omega
        have h3 : Y (i0 - 1) ≤ b := by omega
        simp (disch := omega) [mX4_put_b16, Option.bind_some, nI_leE, nI_ltE, nI_eqE, nI_1, nI_add, rdI_n, rdL_n, wrI_n, wrL_n, has6b, has9b, bI_0, bI_1, nI_m1, nI_lt0, nI_le0, nI_0le, nI_eq0, leF, leT, ltF, ltT, eqF, e1, g2, h2, h3, h0]
theorem put9 {F N a b w : Nat} {X Y W : Nat → Nat} {ws xs ys : Nat → Int32} (hF : 1000 ≤ F) (hN : N < 24) (ha : a < 1024) (hb : b < 1024) (hI : IN N X Y)
    (hP : ∀ i, i < N → ws i = nI (W i) ∧ xs i = nI (X i) ∧ ys i = nI (Y i)) :
    ∃ ws' xs' ys', mX9_comes F (nI a) (nI b) (nI w) (nI N) ws xs ys = some (nI (N + 1), ws', xs', ys') ∧
      ∀ i, i < N + 1 → ws' i = nI (insB W (ipB X Y a b N) w i) ∧ xs' i = nI (insB X (ipB X Y a b N) a i) ∧ ys' i = nI (insB Y (ipB X Y a b N) b i) := by
  have ⟨s1, s2, s3⟩ := ip_spec (X := X) (Y := Y) (a := a) (b := b) (N := N)
  generalize ipB X Y a b N = i0 at s1 s2 s3 ⊢
  unfold mX9_comes
  refine Exists.elim (lpI (body := fun s6 : Int32 × (Nat → Int32) × (Nat → Int32) × (Nat → Int32) => mX9_comes_b6 F (nI a) (nI b) s6.1 s6.2.1 s6.2.2.1 s6.2.2.2) (F := F)
    (fun k (t : T3) => (nI (N - k), t.1, t.2.1, t.2.2)) (fun k t => gapT N W X Y (N - k) t) 0 (N - i0) (fun t => (nI i0, t.1, t.2.1, t.2.2)) (ws, xs, ys) (by omega) (s0 := (nI N, ws, xs, ys)) rfl
    (gap_0 hP) (fun k t _ hk hI2 => ?_) (fun t hI2 => ?_) (by omega)) ?_
  rotate_right 1
  · intro t hh_; obtain ⟨e, hg⟩ := hh_
    rw [e]
    rw [show N - (N - i0) = i0 by omega] at hg
    refine ⟨upd t.1 i0 (nI w), upd t.2.1 i0 (nI a), upd t.2.2 i0 (nI b), ?_, gap_end hg s1⟩
    simp (disch := omega) only [Option.bind_some, nI_leE, nI_ltE, nI_eqE, nI_1, nI_add, rdI_n, rdL_n, wrI_n, wrL_n, has6b, has9b, bI_0, bI_1, nI_m1, nI_lt0, nI_le0, nI_0le, nI_eq0, leF, leT, ltF, ltT, eqF]
  · refine ⟨_, ?_, by have := gap_step (by omega) hI2 (by omega); rw [show N - k - 1 = N - (k + 1) by omega] at this; exact this⟩
    have ⟨g1, g2⟩ := (hI2 (N - (k + 1)) (by omega)).1 (by omega)
    have q := s2 (N - (k + 1)) (by omega) (by omega)
    have ⟨q1, q2⟩ := hI (N - (k + 1)) (by omega)
    have e1 : nI (N - k) - 1 = nI (N - (k + 1)) := nI_s1 (a := N - k) (by omega)
    have e2 : True := trivial
    by_cases h1 : a < X (N - (k + 1))
    · simp (disch := omega) [mX9_comes_b6, mX9_comes_j50, Option.bind_some, nI_leE, nI_ltE, nI_eqE, nI_1, nI_add, rdI_n, rdL_n, wrI_n, wrL_n, has6b, has9b, bI_0, bI_1, nI_m1, nI_lt0, nI_le0, nI_0le, nI_eq0, leF, leT, ltF, ltT, eqF, e1, e2, g2, h1]
    · have h2 : X (N - (k + 1)) = a := by omega
      have h3 : ¬ Y (N - (k + 1)) ≤ b := by omega
      simp (disch := omega) [mX9_comes_b6, mX9_comes_j50, Option.bind_some, nI_leE, nI_ltE, nI_eqE, nI_1, nI_add, rdI_n, rdL_n, wrI_n, wrL_n, has6b, has9b, bI_0, bI_1, nI_m1, nI_lt0, nI_le0, nI_0le, nI_eq0, leF, leT, ltF, ltT, eqF, e1, e2, g2, h1, h2, h3]
  · rw [show N - (N - i0) = i0 by omega] at hI2 ⊢
    by_cases h0 : i0 = 0
    · subst h0
      simp (disch := omega) [mX9_comes_b6, Option.bind_some, nI_leE, nI_ltE, nI_eqE, nI_1, nI_add, rdI_n, rdL_n, wrI_n, wrL_n, has6b, has9b, bI_0, bI_1, nI_m1, nI_lt0, nI_le0, nI_0le, nI_eq0, leF, leT, ltF, ltT, eqF]
    · have ⟨g1, g2⟩ := (hI2 (i0 - 1) (by omega)).1 (by omega)
      have q := s3 (by omega)
      have ⟨q1, q2⟩ := hI (i0 - 1) (by omega)
      have e1 : nI i0 - 1 = nI (i0 - 1) := nI_s1 (by omega)
      by_cases h1 : X (i0 - 1) < a
      · have h2 : ¬ a < X (i0 - 1) := by omega
        have h3 : ¬ X (i0 - 1) = a := by omega
        simp (disch := omega) [mX9_comes_b6, Option.bind_some, nI_leE, nI_ltE, nI_eqE, nI_1, nI_add, rdI_n, rdL_n, wrI_n, wrL_n, has6b, has9b, bI_0, bI_1, nI_m1, nI_lt0, nI_le0, nI_0le, nI_eq0, leF, leT, ltF, ltT, eqF, e1, g2, h2, h3, h0]
      · have h2 : X (i0 - 1) = a := by omega
        have h3 : Y (i0 - 1) ≤ b := by omega
        simp (disch := omega) [mX9_comes_b6, Option.bind_some, nI_leE, nI_ltE, nI_eqE, nI_1, nI_add, rdI_n, rdL_n, wrI_n, wrL_n, has6b, has9b, bI_0, bI_1, nI_m1, nI_lt0, nI_le0, nI_0le, nI_eq0, leF, leT, ltF, ltT, eqF, e1, g2, h2, h3, h0]
/-- three rows while the place i is being closed -/
def cloT (N : Nat) (W X Y : Nat → Nat) (p i : Nat) (t : T3) : Prop :=
  ∀ j, j < N → (j < i → t.1 j = nI (delB W p j) ∧ t.2.1 j = nI (delB X p j) ∧ t.2.2 j = nI (delB Y p j)) ∧ (i < j → t.1 j = nI (W j) ∧ t.2.1 j = nI (X j) ∧ t.2.2 j = nI (Y j))
theorem clo_0 {N : Nat} {W X Y : Nat → Nat} {p : Nat} {ws xs ys : Nat → Int32} (h : ∀ i, i < N → ws i = nI (W i) ∧ xs i = nI (X i) ∧ ys i = nI (Y i)) : cloT N W X Y p p (ws, xs, ys) := by
  intro j hj
  refine ⟨fun e => ?_, fun e => h j hj⟩
  unfold delB
  rw [if_pos e, if_pos e, if_pos e]
  exact h j hj
theorem clo_step {N : Nat} {W X Y : Nat → Nat} {p i : Nat} {t : T3} (hp : p ≤ i) (h : cloT N W X Y p i t) (hN : i + 1 < N) : cloT N W X Y p (i + 1) (upd t.1 i (t.1 (i + 1)), upd t.2.1 i (t.2.1 (i + 1)), upd t.2.2 i (t.2.2 (i + 1))) := by
  intro j hj
  have ⟨h1, h2⟩ := h j hj
  have ⟨g1, g2⟩ := h (i + 1) (by omega)
  refine ⟨fun e => ?_, fun e => ?_⟩
  · by_cases e2 : j = i
    · subst e2
      simp only [pk_us]
      have := g2 (by omega)
      unfold delB
      rw [if_neg (by omega), if_neg (by omega), if_neg (by omega)]
      exact this
    · simp only [pk_un e2]
      exact h1 (by omega)
  · simp only [pk_un (show j ≠ i by omega)]
    exact h2 (by omega)
theorem drop4 {F N p : Nat} {X Y W : Nat → Nat} {ws xs ys : Nat → Int32} (hF : 1000 ≤ F) (hN : N ≤ 24) (hp : p < N)
    (hP : ∀ i, i < N → ws i = nI (W i) ∧ xs i = nI (X i) ∧ ys i = nI (Y i)) :
    ∃ ws' xs' ys', mX4_drop F (nI p) (nI N) ws xs ys = some (nI (N - 1), ws', xs', ys') ∧
      ∀ i, i < N - 1 → ws' i = nI (delB W p i) ∧ xs' i = nI (delB X p i) ∧ ys' i = nI (delB Y p i) := by
  unfold mX4_drop
  rw [if_neg (by rw [nI_lt0 (by omega)]; exact id), if_pos (by rw [nI_ltE (by omega) (by omega)]; exact hp)]
  refine Exists.elim (lpI (body := fun s17 : Int32 × (Nat → Int32) × (Nat → Int32) × (Nat → Int32) => mX4_drop_b17 F (nI N) s17.1 s17.2.1 s17.2.2.1 s17.2.2.2) (F := F)
    (fun k (t : T3) => (nI (k + 1), t.1, t.2.1, t.2.2)) (fun k t => cloT N W X Y p k t) p (N - 1) (fun t => (nI (N - 1), t.1, t.2.1, t.2.2)) (ws, xs, ys) (by omega) (s0 := (nI (p + 1), ws, xs, ys)) rfl
    (clo_0 hP) (fun k t h1 hk hI2 => ?_) (fun t hI2 => ?_) (by omega)) ?_
  rotate_right 1
  · intro t hh_; obtain ⟨e, hg⟩ := hh_
    simp only [nI_1, Option.bind_some]
    rw [e]
    exact ⟨_, _, _, rfl, fun i hi => (hg i (by omega)).1 hi⟩
  · refine ⟨_, ?_, clo_step h1 hI2 (by omega)⟩
    have e1 : nI (k + 1) - 1 = nI k := nI_s1 (by omega)
    simp (disch := omega) [mX4_drop_b17, mX4_move, Option.bind_some, nI_leE, nI_ltE, nI_eqE, nI_1, nI_add, rdI_n, rdL_n, wrI_n, wrL_n, has6b, has9b, bI_0, bI_1, nI_m1, nI_lt0, nI_le0, nI_0le, nI_eq0, leF, leT, ltF, ltT, eqF, e1]
  · have e1 : N - 1 + 1 = N := by omega
    have e2 : nI N - 1 = nI (N - 1) := nI_s1 (by omega)
    simp (disch := omega) [mX4_drop_b17, Option.bind_some, nI_leE, nI_ltE, nI_eqE, nI_1, nI_add, rdI_n, rdL_n, wrI_n, wrL_n, has6b, has9b, bI_0, bI_1, nI_m1, nI_lt0, nI_le0, nI_0le, nI_eq0, leF, leT, ltF, ltT, eqF, e1, e2]
theorem drop9 {F N p : Nat} {X Y W : Nat → Nat} {ws xs ys : Nat → Int32} (hF : 1000 ≤ F) (hN : N ≤ 24) (hp : p < N)
    (hP : ∀ i, i < N → ws i = nI (W i) ∧ xs i = nI (X i) ∧ ys i = nI (Y i)) :
    ∃ ws' xs' ys', mX9_goes F (nI p) (nI N) ws xs ys = some (nI (N - 1), ws', xs', ys') ∧
      ∀ i, i < N - 1 → ws' i = nI (delB W p i) ∧ xs' i = nI (delB X p i) ∧ ys' i = nI (delB Y p i) := by
  unfold mX9_goes
  have e2 : nI N - 1 = nI (N - 1) := nI_s1 (by omega)
  rw [e2]
  simp only [Option.bind_some]
  refine Exists.elim (lpI (body := fun s12 : Int32 × (Nat → Int32) × (Nat → Int32) × (Nat → Int32) => mX9_goes_b12 F (nI (N - 1)) s12.1 s12.2.1 s12.2.2.1 s12.2.2.2) (F := F)
    (fun k (t : T3) => (nI k, t.1, t.2.1, t.2.2)) (fun k t => cloT N W X Y p k t) p (N - 1) (fun t => (nI (N - 1), t.1, t.2.1, t.2.2)) (ws, xs, ys) (by omega) (s0 := (nI p, ws, xs, ys)) rfl
    (clo_0 hP) (fun k t h1 hk hI2 => ?_) (fun t hI2 => ?_) (by omega)) ?_
  rotate_right 1
  · intro t hh_; obtain ⟨e, hg⟩ := hh_
    rw [e]
    exact ⟨_, _, _, rfl, fun i hi => (hg i (by omega)).1 hi⟩
  · refine ⟨_, ?_, clo_step h1 hI2 (by omega)⟩
    simp (disch := omega) [mX9_goes_b12, Option.bind_some, nI_leE, nI_ltE, nI_eqE, nI_1, nI_add, rdI_n, rdL_n, wrI_n, wrL_n, has6b, has9b, bI_0, bI_1, nI_m1, nI_lt0, nI_le0, nI_0le, nI_eq0, leF, leT, ltF, ltT, eqF]
  · simp (disch := omega) [mX9_goes_b12, Option.bind_some, nI_leE, nI_ltE, nI_eqE, nI_1, nI_add, rdI_n, rdL_n, wrI_n, wrL_n, has6b, has9b, bI_0, bI_1, nI_m1, nI_lt0, nI_le0, nI_0le, nI_eq0, leF, leT, ltF, ltT, eqF]
theorem copy4 {F N : Nat} (hF : 1000 ≤ F) (hN : N ≤ 24) (c : Int32) (ws xs ys us vs zs : Nat → Int32) :
    ∃ ws' xs' ys', mX4_copy F c (nI N) ws xs ys us vs zs = some (nI N, ws', xs', ys') ∧ ∀ i, i < N → ws' i = us i ∧ xs' i = vs i ∧ ys' i = zs i := by
  unfold mX4_copy
  refine Exists.elim (lpI (body := fun s10 : Int32 × (Nat → Int32) × (Nat → Int32) × (Nat → Int32) => mX4_copy_b10 F (nI N) us vs zs s10.1 s10.2.1 s10.2.2.1 s10.2.2.2) (F := F)
    (fun k (t : T3) => (nI k, t.1, t.2.1, t.2.2)) (fun k t => ∀ i, i < k → t.1 i = us i ∧ t.2.1 i = vs i ∧ t.2.2 i = zs i) 0 N (fun t => (nI N, t.1, t.2.1, t.2.2)) (ws, xs, ys) (by omega) (s0 := ((0 : Int32), ws, xs, ys)) rfl
    (fun i hi => by omega) (fun k t _ hk hI2 => ?_) (fun t hI2 => ?_) (by omega)) ?_
  rotate_right 1
  · intro t hh_; obtain ⟨e, hg⟩ := hh_
    rw [e]
    exact ⟨_, _, _, rfl, hg⟩
  · refine ⟨(upd t.1 k (us k), upd t.2.1 k (vs k), upd t.2.2 k (zs k)), ?_, fun i hi => ?_⟩
    · simp (disch := omega) [mX4_copy_b10, Option.bind_some, nI_leE, nI_ltE, nI_eqE, nI_1, nI_add, rdI_n, rdL_n, wrI_n, wrL_n, has6b, has9b, bI_0, bI_1, nI_m1, nI_lt0, nI_le0, nI_0le, nI_eq0, leF, leT, ltF, ltT, eqF]
    · by_cases e2 : i = k
      · subst e2; simp only [pk_us, and_self]
      · simp only [pk_un e2]; exact hI2 i (by omega)
  · simp (disch := omega) [mX4_copy_b10, Option.bind_some, nI_leE, nI_ltE, nI_eqE, nI_1, nI_add, rdI_n, rdL_n, wrI_n, wrL_n, has6b, has9b, bI_0, bI_1, nI_m1, nI_lt0, nI_le0, nI_0le, nI_eq0, leF, leT, ltF, ltT, eqF]
