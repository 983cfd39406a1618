/-! ===== PURE 19: scatter ===== -/
def lcg (s : Int32) : Int32 := ((1664525 : Int32) * s) + (1013904223 : Int32)
def drw (s : Int32) : Nat := s.toBitVec.toNat / 256
theorem drw_lt (s : Int32) : drw s < 16777216 := by
  have : s.toBitVec.toNat < 2 ^ 32 := s.toBitVec.isLt
  unfold drw
  omega
theorem ush8 (x : Int32) : (x.toUInt32 >>> ((8 : Int32).toUInt32 &&& Int32.toUInt32 31)).toInt32 = nI (drw x) := by
  have h := pk_ushr x 8 8 (by decide +kernel)
  have hl := drw_lt x
  apply Int32.toBitVec_inj.mp
  apply BitVec.eq_of_toNat_eq
  rw [h, pk_tn (by omega)]
  rfl
theorem draw8 (F m : Nat) (s : Int32) (h1 : 1 ≤ m) (hm : m < 2 ^ 31) : mX8_draw F (nI m) s = some (nI (drw (lcg s) % m), lcg s) := by
  unfold mX8_draw
  have hl := drw_lt (lcg s)
  have e1 : (1 : Int32) ≤ nI m := by rw [c1, nI_leE (by omega) hm]; exact h1
  have e2 : ¬ nI m = 0 := by rw [nI_eq0 hm]; omega
  simp only [Option.bind_some]
  rw [if_pos e1, if_neg e2]
  show some ((((lcg s).toUInt32 >>> ((8 : Int32).toUInt32 &&& Int32.toUInt32 31)).toInt32 - ((lcg s).toUInt32 >>> ((8 : Int32).toUInt32 &&& Int32.toUInt32 31)).toInt32 / nI m * nI m), lcg s) = _
  rw [ush8, pk_rem (by omega) (by omega) hm]
theorem draw9 (F m : Nat) (s : Int32) (h1 : 1 ≤ m) (hm : m < 2 ^ 31) : mX9_draw F (nI m) s = some (nI (drw (lcg s) % m), lcg s) := by
  unfold mX9_draw
  have hl := drw_lt (lcg s)
  have e2 : ¬ nI m = 0 := by rw [nI_eq0 hm]; omega
  simp only [Option.bind_some]
  rw [if_neg e2]
  show some ((((lcg s).toUInt32 >>> ((8 : Int32).toUInt32 &&& Int32.toUInt32 31)).toInt32 - ((lcg s).toUInt32 >>> ((8 : Int32).toUInt32 &&& Int32.toUInt32 31)).toInt32 / nI m * nI m), lcg s) = _
  rw [ush8, pk_rem (by omega) (by omega) hm]
def canc (n : Nat) (X Y : Nat → Nat) (a b : Nat) : Bool := decide (n < 24) && decide (fstB (fun i => decide (X i = a) && decide (Y i = b)) n = none)
theorem canc_B {n a b : Nat} {X Y W : Nat → Nat} {ws xs ys : Nat → Int32} (hn : n ≤ 24) (hI : IN n X Y) (h : ROWS n X Y W ws xs ys) (ha : a < 1024) (hb : b < 1024) : canB n xs ys (nI a) (nI b) = canc n X Y a b := by
  unfold canB canc
  rw [fstB_congr (q := fun i => decide (X i = a) && decide (Y i = b)) (fun k hk => by
    have ⟨_, p2, p3⟩ := h k hk
    have ⟨q1, q2⟩ := hI k hk
    rw [p2, p3, show decide (nI (X k) = nI a) = decide (X k = a) from decide_eq_decide.mpr (by rw [nI_eqE (by omega) (by omega)]), show decide (nI (Y k) = nI b) = decide (Y k = b) from decide_eq_decide.mpr (by rw [nI_eqE (by omega) (by omega)])])]
  congr 1
  apply decide_eq_decide.mpr
  rw [tI_n (by omega), tI_n (by omega)]
  omega
theorem canc_true {n a b : Nat} {X Y : Nat → Nat} (h : canc n X Y a b = true) : n < 24 ∧ ∀ p, p < n → ¬ (X p = a ∧ Y p = b) := by
  unfold canc at h
  have ⟨h1, h2⟩ := (Bool.and_eq_true _ _).mp h
  refine ⟨of_decide_eq_true h1, fun p hp g => ?_⟩
  have := fstB_none.mp (of_decide_eq_true h2) p hp
  simp [g.1, g.2] at this
/-- one drawn point: came, state, how many, points -/
def scT (t : Nat × Int32 × Nat × (Nat → Nat) × (Nat → Nat) × (Nat → Nat)) (a b w : Nat) (s : Int32) : Nat × Int32 × Nat × (Nat → Nat) × (Nat → Nat) × (Nat → Nat) :=
  if canc t.2.2.1 t.2.2.2.1 t.2.2.2.2.1 a b = true then
    (t.1 + 1, s, t.2.2.1 + 1, insB t.2.2.2.1 (ipB t.2.2.2.1 t.2.2.2.2.1 a b t.2.2.1) a, insB t.2.2.2.2.1 (ipB t.2.2.2.1 t.2.2.2.2.1 a b t.2.2.1) b, insB t.2.2.2.2.2 (ipB t.2.2.2.1 t.2.2.2.2.1 a b t.2.2.1) w)
  else (t.1, s, t.2.2.1, t.2.2.2.1, t.2.2.2.2.1, t.2.2.2.2.2)
def dA (s : Int32) : Nat := drw s % 1024
def dW (s : Int32) : Nat := drw s % 99
theorem dA_lt (s : Int32) : dA s < 1024 := Nat.mod_lt _ (by omega)
theorem dW_lt (s : Int32) : dW s < 99 := Nat.mod_lt _ (by omega)
theorem draw8a (F : Nat) (s : Int32) : mX8_draw F 1024 s = some (nI (dA (lcg s)), lcg s) := draw8 F 1024 s (by omega) (by omega)
theorem draw8w (F : Nat) (s : Int32) : mX8_draw F 99 s = some (nI (dW (lcg s)), lcg s) := draw8 F 99 s (by omega) (by omega)
theorem draw9a (F : Nat) (s : Int32) : mX9_draw F 1024 s = some (nI (dA (lcg s)), lcg s) := draw9 F 1024 s (by omega) (by omega)
theorem draw9w (F : Nat) (s : Int32) : mX9_draw F 99 s = some (nI (dW (lcg s)), lcg s) := draw9 F 99 s (by omega) (by omega)
def scS (t : Nat × Int32 × Nat × (Nat → Nat) × (Nat → Nat) × (Nat → Nat)) : Nat × Int32 × Nat × (Nat → Nat) × (Nat → Nat) × (Nat → Nat) :=
  scT t (dA (lcg t.2.1)) (dA (lcg (lcg t.2.1))) (dW (lcg (lcg (lcg t.2.1))) + 1) (lcg (lcg (lcg t.2.1)))
def scB (t0 : Nat × Int32 × Nat × (Nat → Nat) × (Nat → Nat) × (Nat → Nat)) : Nat → Nat × Int32 × Nat × (Nat → Nat) × (Nat → Nat) × (Nat → Nat)
  | 0 => t0
  | k + 1 => scS (scB t0 k)
theorem scT_good {t : Nat × Int32 × Nat × (Nat → Nat) × (Nat → Nat) × (Nat → Nat)} (h : GOOD t.2.2.1 t.2.2.2.1 t.2.2.2.2.1 t.2.2.2.2.2) {a b w : Nat} (ha : a < 1024) (hb : b < 1024) (hw : 1 ≤ w ∧ w ≤ 99) (s : Int32) :
    GOOD (scT t a b w s).2.2.1 (scT t a b w s).2.2.2.1 (scT t a b w s).2.2.2.2.1 (scT t a b w s).2.2.2.2.2 := by
  unfold scT
  by_cases c : canc t.2.2.1 t.2.2.2.1 t.2.2.2.2.1 a b = true
  · rw [if_pos c]
    have ⟨c1, c2⟩ := canc_true c
    exact good_ins h c1 ha hb hw c2
  · rw [if_neg c]
    exact h
theorem scS_good {t : Nat × Int32 × Nat × (Nat → Nat) × (Nat → Nat) × (Nat → Nat)} (h : GOOD t.2.2.1 t.2.2.2.1 t.2.2.2.2.1 t.2.2.2.2.2) :
    GOOD (scS t).2.2.1 (scS t).2.2.2.1 (scS t).2.2.2.2.1 (scS t).2.2.2.2.2 := scT_good h (dA_lt _) (dA_lt _) ⟨Nat.le_add_left _ _, dW_lt _⟩ _
theorem scB_good {t0 : Nat × Int32 × Nat × (Nat → Nat) × (Nat → Nat) × (Nat → Nat)} (h : GOOD t0.2.2.1 t0.2.2.2.1 t0.2.2.2.2.1 t0.2.2.2.2.2) : ∀ k, GOOD (scB t0 k).2.2.1 (scB t0 k).2.2.2.1 (scB t0 k).2.2.2.2.1 (scB t0 k).2.2.2.2.2
  | 0 => h
  | k + 1 => scS_good (scB_good h k)
theorem scB_came {t0 : Nat × Int32 × Nat × (Nat → Nat) × (Nat → Nat) × (Nat → Nat)} : ∀ k, (scB t0 k).1 ≤ t0.1 + k
  | 0 => Nat.le_refl _
  | k + 1 => by
    have ih := scB_came (t0 := t0) k
    show (scT (scB t0 k) _ _ _ _).1 ≤ _
    unfold scT
    split
    · show (scB t0 k).1 + 1 ≤ _; omega
    · show (scB t0 k).1 ≤ _; omega
theorem sc_tail8 {F k a b w : Nat} (hF : 1000 ≤ F) (s : Int32) (t : Nat × Int32 × Nat × (Nat → Nat) × (Nat → Nat) × (Nat → Nat)) (g : GOOD t.2.2.1 t.2.2.2.1 t.2.2.2.2.1 t.2.2.2.2.2) {ws xs ys : Nat → Int32} (h : ROWS t.2.2.1 t.2.2.2.1 t.2.2.2.2.1 t.2.2.2.2.2 ws xs ys) (ha : a < 1024) (hb : b < 1024) :
    ∃ u : (Nat → Int32) × (Nat → Int32) × (Nat → Int32), ((mX4_canCome F (nI a) (nI b) (nI t.2.2.1) xs ys).bind fun r10 => if r10 = 0 then (some (.inl (nI t.1, (nI k + (1 : Int32)), s, nI t.2.2.1, ws, xs, ys))) else ((mX4_put F (nI a) (nI b) (nI w) (nI t.2.2.1) ws xs ys).bind fun r12 => (some ((nI t.1 + (1 : Int32)))).bind fun v13 => some (.inl (v13, (nI k + (1 : Int32)), s, r12.1, r12.2.1, r12.2.2.1, r12.2.2.2))) : Option ((Int32 × Int32 × Int32 × Int32 × (Nat → Int32) × (Nat → Int32) × (Nat → Int32)) ⊕ ((Int32 × Int32 × Int32 × (Nat → Int32) × (Nat → Int32) × (Nat → Int32))))) = some (.inl (nI (scT t a b w s).1, nI (k + 1), (scT t a b w s).2.1, nI (scT t a b w s).2.2.1, u)) ∧
      ROWS (scT t a b w s).2.2.1 (scT t a b w s).2.2.2.1 (scT t a b w s).2.2.2.2.1 (scT t a b w s).2.2.2.2.2 u.1 u.2.1 u.2.2 := by
  have hn := g.1
  have cc := canCome4 (F := F) hF hn (nI a) (nI b) xs ys
  rw [canc_B hn g.2.1 h ha hb] at cc
  rw [cc]
  unfold scT
  simp only [Option.bind_some]
  by_cases c : canc t.2.2.1 t.2.2.2.1 t.2.2.2.2.1 a b = true
  · have ⟨c1', c2⟩ := canc_true c
    obtain ⟨r, e, e1, e2⟩ := put4r (F := F) (a := a) (b := b) (w := w) hF c1' ha hb g.2.1 rfl h
    rw [if_pos c, c, if_neg (by rw [k0T]; exact id), e]
    simp only [Option.bind_some, nI_1]
    rw [e1]
    exact ⟨r.2, rfl, e2⟩
  · rw [if_neg c, Bool.not_eq_true _ |>.mp c, if_pos (by rw [k0F]; trivial)]
    simp only [nI_1]
    exact ⟨(ws, xs, ys), rfl, h⟩
theorem sc_gen8 {F m k a b w : Nat} (hF : 1000 ≤ F) (hm : m ≤ 24) (hk : k < m) (t : Nat × Int32 × Nat × (Nat → Nat) × (Nat → Nat) × (Nat → Nat)) (g : GOOD t.2.2.1 t.2.2.2.1 t.2.2.2.2.1 t.2.2.2.2.2) {ws xs ys : Nat → Int32} (h : ROWS t.2.2.1 t.2.2.2.1 t.2.2.2.2.1 t.2.2.2.2.2 ws xs ys) (ha : a < 1024) (hb : b < 1024)
    {s1 s2 s3 : Int32} (d1 : mX8_draw F 1024 t.2.1 = some (nI a, s1)) (d2 : mX8_draw F 1024 s1 = some (nI b, s2)) (d3 : mX8_draw F 99 s2 = some (nI w, s3)) :
    ∃ u : (Nat → Int32) × (Nat → Int32) × (Nat → Int32), mX8_scatter_b21 F (nI m) (nI t.1) (nI k) t.2.1 (nI t.2.2.1) ws xs ys = some (.inl (nI (scT t a b (w + 1) s3).1, nI (k + 1), (scT t a b (w + 1) s3).2.1, nI (scT t a b (w + 1) s3).2.2.1, u)) ∧ ROWS (scT t a b (w + 1) s3).2.2.1 (scT t a b (w + 1) s3).2.2.2.1 (scT t a b (w + 1) s3).2.2.2.2.1 (scT t a b (w + 1) s3).2.2.2.2.2 u.1 u.2.1 u.2.2 := by
  have hle : ¬ nI m ≤ nI k := by rw [nI_leE (by omega) (by omega)]; omega
  unfold mX8_scatter_b21
  rw [if_neg hle, d1, Option.bind_some, d2, Option.bind_some, d3, Option.bind_some, Option.bind_some]
  have tl := sc_tail8 (w := w + 1) (k := k) hF s3 t g h ha hb
  rw [← nI_1 w] at tl
  exact tl
theorem sc_step8 {F m k : Nat} (hF : 1000 ≤ F) (hm : m ≤ 24) (hk : k < m) (t : Nat × Int32 × Nat × (Nat → Nat) × (Nat → Nat) × (Nat → Nat)) (g : GOOD t.2.2.1 t.2.2.2.1 t.2.2.2.2.1 t.2.2.2.2.2) {ws xs ys : Nat → Int32} (h : ROWS t.2.2.1 t.2.2.2.1 t.2.2.2.2.1 t.2.2.2.2.2 ws xs ys) :
    ∃ u : (Nat → Int32) × (Nat → Int32) × (Nat → Int32), mX8_scatter_b21 F (nI m) (nI t.1) (nI k) t.2.1 (nI t.2.2.1) ws xs ys = some (.inl (nI (scS t).1, nI (k + 1), (scS t).2.1, nI (scS t).2.2.1, u)) ∧
      ROWS (scS t).2.2.1 (scS t).2.2.2.1 (scS t).2.2.2.2.1 (scS t).2.2.2.2.2 u.1 u.2.1 u.2.2 := by
  unfold scS
  exact sc_gen8 hF hm hk t g h (dA_lt _) (dA_lt _) (draw8a F t.2.1) (draw8a F (lcg t.2.1)) (draw8w F (lcg (lcg t.2.1)))
theorem sc_tail9 {F k a b w : Nat} (hF : 1000 ≤ F) (s : Int32) (t : Nat × Int32 × Nat × (Nat → Nat) × (Nat → Nat) × (Nat → Nat)) (g : GOOD t.2.2.1 t.2.2.2.1 t.2.2.2.2.1 t.2.2.2.2.2) {ws xs ys : Nat → Int32} (h : ROWS t.2.2.1 t.2.2.2.1 t.2.2.2.2.1 t.2.2.2.2.2 ws xs ys) (ha : a < 1024) (hb : b < 1024) :
    ∃ u : (Nat → Int32) × (Nat → Int32) × (Nat → Int32), ((mX9_canCome F (nI a) (nI b) (nI t.2.2.1) xs ys).bind fun r10 => if r10 = 0 then (some (.inl (nI t.1, (nI k + (1 : Int32)), nI t.2.2.1, s, ws, xs, ys))) else ((mX9_comes F (nI a) (nI b) (nI w) (nI t.2.2.1) ws xs ys).bind fun r12 => (some ((nI t.1 + (1 : Int32)))).bind fun v13 => some (.inl (v13, (nI k + (1 : Int32)), r12.1, s, r12.2.1, r12.2.2.1, r12.2.2.2))) : Option ((Int32 × Int32 × Int32 × Int32 × (Nat → Int32) × (Nat → Int32) × (Nat → Int32)) ⊕ ((Int32 × Int32 × Int32 × (Nat → Int32) × (Nat → Int32) × (Nat → Int32))))) = some (.inl (nI (scT t a b w s).1, nI (k + 1), nI (scT t a b w s).2.2.1, (scT t a b w s).2.1, u)) ∧
      ROWS (scT t a b w s).2.2.1 (scT t a b w s).2.2.2.1 (scT t a b w s).2.2.2.2.1 (scT t a b w s).2.2.2.2.2 u.1 u.2.1 u.2.2 := by
  have hn := g.1
  have cc := canCome9 (F := F) hF hn (nI a) (nI b) xs ys
  rw [canc_B hn g.2.1 h ha hb] at cc
  rw [cc]
  unfold scT
  simp only [Option.bind_some]
  by_cases c : canc t.2.2.1 t.2.2.2.1 t.2.2.2.2.1 a b = true
  · have ⟨c1', c2⟩ := canc_true c
    obtain ⟨r, e, e1, e2⟩ := put9r (F := F) (a := a) (b := b) (w := w) hF c1' ha hb g.2.1 rfl h
    rw [if_pos c, c, if_neg (by rw [k0T]; exact id), e]
    simp only [Option.bind_some, nI_1]
    rw [e1]
    exact ⟨r.2, rfl, e2⟩
  · rw [if_neg c, Bool.not_eq_true _ |>.mp c, if_pos (by rw [k0F]; trivial)]
    simp only [nI_1]
    exact ⟨(ws, xs, ys), rfl, h⟩
theorem sc_gen9 {F m k a b w : Nat} (hF : 1000 ≤ F) (hm : m ≤ 24) (hk : k < m) (t : Nat × Int32 × Nat × (Nat → Nat) × (Nat → Nat) × (Nat → Nat)) (g : GOOD t.2.2.1 t.2.2.2.1 t.2.2.2.2.1 t.2.2.2.2.2) {ws xs ys : Nat → Int32} (h : ROWS t.2.2.1 t.2.2.2.1 t.2.2.2.2.1 t.2.2.2.2.2 ws xs ys) (ha : a < 1024) (hb : b < 1024)
    {s1 s2 s3 : Int32} (d1 : mX9_draw F 1024 t.2.1 = some (nI a, s1)) (d2 : mX9_draw F 1024 s1 = some (nI b, s2)) (d3 : mX9_draw F 99 s2 = some (nI w, s3)) :
    ∃ u : (Nat → Int32) × (Nat → Int32) × (Nat → Int32), mX9_scatter_b28 F (nI m) (nI t.1) (nI k) (nI t.2.2.1) t.2.1 ws xs ys = some (.inl (nI (scT t a b (w + 1) s3).1, nI (k + 1), nI (scT t a b (w + 1) s3).2.2.1, (scT t a b (w + 1) s3).2.1, u)) ∧ ROWS (scT t a b (w + 1) s3).2.2.1 (scT t a b (w + 1) s3).2.2.2.1 (scT t a b (w + 1) s3).2.2.2.2.1 (scT t a b (w + 1) s3).2.2.2.2.2 u.1 u.2.1 u.2.2 := by
  have hle : ¬ nI m ≤ nI k := by rw [nI_leE (by omega) (by omega)]; omega
  unfold mX9_scatter_b28
  rw [if_neg hle, d1, Option.bind_some, d2, Option.bind_some, d3, Option.bind_some, Option.bind_some]
  have tl := sc_tail9 (w := w + 1) (k := k) hF s3 t g h ha hb
  rw [← nI_1 w] at tl
  exact tl
theorem sc_step9 {F m k : Nat} (hF : 1000 ≤ F) (hm : m ≤ 24) (hk : k < m) (t : Nat × Int32 × Nat × (Nat → Nat) × (Nat → Nat) × (Nat → Nat)) (g : GOOD t.2.2.1 t.2.2.2.1 t.2.2.2.2.1 t.2.2.2.2.2) {ws xs ys : Nat → Int32} (h : ROWS t.2.2.1 t.2.2.2.1 t.2.2.2.2.1 t.2.2.2.2.2 ws xs ys) :
    ∃ u : (Nat → Int32) × (Nat → Int32) × (Nat → Int32), mX9_scatter_b28 F (nI m) (nI t.1) (nI k) (nI t.2.2.1) t.2.1 ws xs ys = some (.inl (nI (scS t).1, nI (k + 1), nI (scS t).2.2.1, (scS t).2.1, u)) ∧
      ROWS (scS t).2.2.1 (scS t).2.2.2.1 (scS t).2.2.2.2.1 (scS t).2.2.2.2.2 u.1 u.2.1 u.2.2 := by
  unfold scS
  exact sc_gen9 hF hm hk t g h (dA_lt _) (dA_lt _) (draw9a F t.2.1) (draw9a F (lcg t.2.1)) (draw9w F (lcg (lcg t.2.1)))
theorem sc_loop8 {F m n : Nat} {X Y W : Nat → Nat} (hF : 1000 ≤ F) (hm : m ≤ 24) (s : Int32) {c : Int32} (hc : c = nI n) (g : GOOD n X Y W) {ws xs ys : Nat → Int32} (h : ROWS n X Y W ws xs ys) :
    ∃ r, loop (fun s21 : Int32 × Int32 × Int32 × Int32 × (Nat → Int32) × (Nat → Int32) × (Nat → Int32) => mX8_scatter_b21 F (nI m) s21.1 s21.2.1 s21.2.2.1 s21.2.2.2.1 s21.2.2.2.2.1 s21.2.2.2.2.2.1 s21.2.2.2.2.2.2) F ((0 : Int32), (0 : Int32), s, c, ws, xs, ys) = some r ∧
      r.1 = nI (scB (0, s, n, X, Y, W) m).1 ∧ r.2.1 = (scB (0, s, n, X, Y, W) m).2.1 ∧ r.2.2.1 = nI (scB (0, s, n, X, Y, W) m).2.2.1 ∧
      ROWS (scB (0, s, n, X, Y, W) m).2.2.1 (scB (0, s, n, X, Y, W) m).2.2.2.1 (scB (0, s, n, X, Y, W) m).2.2.2.2.1 (scB (0, s, n, X, Y, W) m).2.2.2.2.2 r.2.2.2.1 r.2.2.2.2.1 r.2.2.2.2.2 := by
  subst hc
  refine Exists.elim (lpI (body := fun s21 : Int32 × Int32 × Int32 × Int32 × (Nat → Int32) × (Nat → Int32) × (Nat → Int32) => mX8_scatter_b21 F (nI m) s21.1 s21.2.1 s21.2.2.1 s21.2.2.2.1 s21.2.2.2.2.1 s21.2.2.2.2.2.1 s21.2.2.2.2.2.2) (F := F)
    (fun k (u : (Nat → Int32) × (Nat → Int32) × (Nat → Int32)) => (nI (scB (0, s, n, X, Y, W) k).1, nI k, (scB (0, s, n, X, Y, W) k).2.1, nI (scB (0, s, n, X, Y, W) k).2.2.1, u))
    (fun k u => ROWS (scB (0, s, n, X, Y, W) k).2.2.1 (scB (0, s, n, X, Y, W) k).2.2.2.1 (scB (0, s, n, X, Y, W) k).2.2.2.2.1 (scB (0, s, n, X, Y, W) k).2.2.2.2.2 u.1 u.2.1 u.2.2) 0 m
    (fun u => (nI (scB (0, s, n, X, Y, W) m).1, (scB (0, s, n, X, Y, W) m).2.1, nI (scB (0, s, n, X, Y, W) m).2.2.1, u)) (ws, xs, ys) (by omega) (s0 := ((0 : Int32), (0 : Int32), s, nI n, ws, xs, ys)) rfl h
    (fun k u _ hk hI2 => sc_step8 hF hm hk _ (scB_good g k) hI2) (fun u hI2 => ?_) (by omega)) ?_
  · unfold mX8_scatter_b21
    rw [if_pos (by rw [nI_leE (by omega) (by omega)]; omega)]
  · intro u hu
    exact ⟨_, hu.1, rfl, rfl, rfl, hu.2⟩
theorem sc_loop9 {F m n : Nat} {X Y W : Nat → Nat} (hF : 1000 ≤ F) (hm : m ≤ 24) (s : Int32) {c : Int32} (hc : c = nI n) (g : GOOD n X Y W) {ws xs ys : Nat → Int32} (h : ROWS n X Y W ws xs ys) :
    ∃ r, loop (fun s28 : Int32 × Int32 × Int32 × Int32 × (Nat → Int32) × (Nat → Int32) × (Nat → Int32) => mX9_scatter_b28 F (nI m) s28.1 s28.2.1 s28.2.2.1 s28.2.2.2.1 s28.2.2.2.2.1 s28.2.2.2.2.2.1 s28.2.2.2.2.2.2) F ((0 : Int32), (0 : Int32), c, s, ws, xs, ys) = some r ∧
      r.1 = nI (scB (0, s, n, X, Y, W) m).1 ∧ r.2.2.1 = (scB (0, s, n, X, Y, W) m).2.1 ∧ r.2.1 = nI (scB (0, s, n, X, Y, W) m).2.2.1 ∧
      ROWS (scB (0, s, n, X, Y, W) m).2.2.1 (scB (0, s, n, X, Y, W) m).2.2.2.1 (scB (0, s, n, X, Y, W) m).2.2.2.2.1 (scB (0, s, n, X, Y, W) m).2.2.2.2.2 r.2.2.2.1 r.2.2.2.2.1 r.2.2.2.2.2 := by
  subst hc
  refine Exists.elim (lpI (body := fun s28 : Int32 × Int32 × Int32 × Int32 × (Nat → Int32) × (Nat → Int32) × (Nat → Int32) => mX9_scatter_b28 F (nI m) s28.1 s28.2.1 s28.2.2.1 s28.2.2.2.1 s28.2.2.2.2.1 s28.2.2.2.2.2.1 s28.2.2.2.2.2.2) (F := F)
    (fun k (u : (Nat → Int32) × (Nat → Int32) × (Nat → Int32)) => (nI (scB (0, s, n, X, Y, W) k).1, nI k, nI (scB (0, s, n, X, Y, W) k).2.2.1, (scB (0, s, n, X, Y, W) k).2.1, u))
    (fun k u => ROWS (scB (0, s, n, X, Y, W) k).2.2.1 (scB (0, s, n, X, Y, W) k).2.2.2.1 (scB (0, s, n, X, Y, W) k).2.2.2.2.1 (scB (0, s, n, X, Y, W) k).2.2.2.2.2 u.1 u.2.1 u.2.2) 0 m
    (fun u => (nI (scB (0, s, n, X, Y, W) m).1, nI (scB (0, s, n, X, Y, W) m).2.2.1, (scB (0, s, n, X, Y, W) m).2.1, u)) (ws, xs, ys) (by omega) (s0 := ((0 : Int32), (0 : Int32), nI n, s, ws, xs, ys)) rfl h
    (fun k u _ hk hI2 => sc_step9 hF hm hk _ (scB_good g k) hI2) (fun u hI2 => ?_) (by omega)) ?_
  · unfold mX9_scatter_b28
    rw [if_pos (by rw [nI_leE (by omega) (by omega)]; omega)]
  · intro u hu
    exact ⟨_, hu.1, rfl, rfl, rfl, hu.2⟩
theorem call_scatter {F : Nat} (hF : 5000 ≤ F) : Call_scatter F INV := by
  intro ca cl ci fr a1 h
  have h0 := h
  obtain ⟨N, M, S, X, Y, W, U, V, Z, ⟨g1, g2, g3, g4, g5, g6⟩, ⟨i8, i9, i15, i2, i3, i18, i19⟩, ⟨r1, r2, r3⟩, h4, h5, h6, h7⟩ := h
  have hN := g1.1
  have w9 := isInI9 F a1 1 24
  rw [l_1, l_24] at w9
  by_cases c : 1 ≤ a1.toInt ∧ a1.toInt ≤ 24
  · rw [decide_eq_true c] at w9
    obtain ⟨m, hm, rfl⟩ : ∃ m : Nat, (1 ≤ m ∧ m ≤ 24) ∧ a1 = nI m := ⟨a1.toInt.toNat, by omega, tI_nI (by omega)⟩
    have q1 : ¬ nI m < (1 : Int32) := by rw [c1, nI_ltE (by omega) (by omega)]; omega
    have q2 : nI m ≤ (24 : Int32) := by rw [c24, nI_leE (by omega) (by omega)]; omega
    obtain ⟨t5, e5, s5, q5⟩ := start8 (F := F) (ws := ca 7) (xs := ca 8) (ys := ca 9) (by omega) hN (ci 3) r1
    obtain ⟨t6, e6, s6, s6b, s6c, q6⟩ := sc_loop8 (F := F) (m := m) (by omega) hm.2 (ci 1) s5 g1 q5
    have gn := scB_good (t0 := (0, ci 1, N, X, Y, W)) g1 m
    obtain ⟨t7, e7, s7, q7⟩ := rebuild2r (F := F) (by omega) gn.1 (rows_pt q6) gn.2.1 s6c (ci 2) (ca 0) (ca 1) (ca 2) (ca 3) (cl 0) (cl 1) (ca 4) (ca 5) (cl 2) (ca 6) (ca 10) (ca 11) (ca 12)
    obtain ⟨u5, f5, v5, v5b, k5⟩ := keeps9 (F := F) (by omega) g1 (rows_pt r2) h6 (ci 18) (ci 19) (ca 74) (ca 75) (ca 77) (ca 78)
    obtain ⟨u6, f6, v6, v6b, v6c, k6⟩ := sc_loop9 (F := F) (m := m) (by omega) hm.2 (ci 1) i15 g1 r2
    obtain ⟨u7, f7, k7⟩ := laysTree9r (F := F) (by omega) gn.1 (rows_pt k6) gn.2.1 v6c (ca 56) (ca 57) (ca 63) (ca 64) (ca 65) (ca 66) (ca 67) (ca 70) (ca 71) (ca 80)
    refine ⟨?r8, ?r9, ?e8, ?e9, ?rest⟩
    case e8 =>
      unfold mX8_scatter
      rw [if_neg q1, if_pos q2, i9, e5]
      simp only [Option.bind_some]
      rw [e6]
      simp only [Option.bind_some]
      rw [e7]
      simp only [Option.bind_some]
      exact rfl
    case e9 =>
      unfold mX9_scatter
      rw [w9, ← g6, f6, i15, f5]
      simp only [Option.bind_some, k0T, if_false]
      rw [f7]
      simp only [Option.bind_some]
      exact rfl
    case rest =>
      refine ⟨s6.trans v6.symm, fun _ => ?_, fun hf => Bool.noConfusion (show true = false from hf)⟩
      exact ⟨_, N, S, _, _, _, X, Y, W, ⟨gn, g1, g3, g4, g5, s6b.trans v6b.symm⟩, ⟨s7, s6c, v6c, i8, i9, v5b, Or.inr v5⟩, ⟨q6, k6, r1⟩, q7, h4, k7, k5⟩
  · rw [decide_eq_false c] at w9
    have e8 : mX8_scatter F a1 (ci 1) (ci 2) (ci 3) (ci 9) (ca 0) (ca 1) (ca 2) (ca 3) (cl 0) (cl 1) (ca 4) (ca 5) (cl 2) (ca 6) (ca 7) (ca 8) (ca 9) (ca 10) (ca 11) (ca 12) (ca 26) (ca 27) (ca 28) = some ((-1 : Int32), ci 1, ci 2, ci 3, ca 0, ca 1, ca 2, ca 3, cl 0, cl 1, ca 4, ca 5, cl 2, ca 6, ca 7, ca 8, ca 9, ca 10, ca 11, ca 12, false) := by
      unfold mX8_scatter
      by_cases q : a1 < (1 : Int32)
      · rw [if_pos q]
      · have q2 : ¬ a1 ≤ (24 : Int32) := by
          rw [tI_lt, i_1] at q
          rw [tI_le, c24, tI_n (by omega)]
          omega
        rw [if_neg q, if_neg q2]
    have e9 : mX9_scatter F a1 (ci 14) (ci 15) (ci 17) (ci 18) (ci 19) (ca 56) (ca 57) (ca 63) (ca 64) (ca 65) (ca 66) (ca 67) (ca 70) (ca 71) (ca 73) (ca 74) (ca 75) (ca 77) (ca 78) (ca 80) (ca 81) (ca 82) =
        some ((-1 : Int32), ci 19, ci 15, ci 17, (0 : Int32), ci 18, ca 56, ca 57, ca 63, ca 64, ca 65, ca 66, ca 67, ca 70, ca 71, ca 73, ca 74, ca 75, ca 77, ca 78, ca 80, ca 81, ca 82) := by
      unfold mX9_scatter
      rw [w9]
      simp only [Option.bind_some, k0F, if_true]
    exact ⟨_, _, e8, e9, rfl, fun hf => Bool.noConfusion (show false = true from hf), fun _ => ⟨N, M, S, X, Y, W, U, V, Z, ⟨g1, g2, g3, g4, g5, g6⟩, ⟨i8, i9, i15, i2, i3, i18, i19⟩, ⟨r1, r2, r3⟩, h4, h5, h6, h7⟩⟩
