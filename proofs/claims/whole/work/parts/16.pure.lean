/-! ===== PURE 7: the tree as whole numbers: grown by least pairs, put in order ===== -/
def minO (p : Nat → Bool) (f : Nat → Nat) : Nat → Option Nat
  | 0 => none
  | n + 1 => if p n = true then (match minO p f n with
    | none => some (f n)
    | some b => some (min b (f n))) else minO p f n
theorem minO_none {p : Nat → Bool} {f : Nat → Nat} : ∀ {n}, minO p f n = none ↔ ∀ k, k < n → p k = false
  | 0 => ⟨fun _ k h => by omega, fun _ => rfl⟩
  | n + 1 => by
    simp only [minO]
    cases hp : p n with
    | true =>
      simp only [if_true]
      refine ⟨fun g => ?_, fun g => by rw [g n (by omega)] at hp; cases hp⟩
      cases h : minO p f n <;> rw [h] at g <;> cases g
    | false =>
      simp only [if_neg (show ¬ (false = true) by decide)]
      refine minO_none.trans ⟨fun g k hk => ?_, fun g k hk => g k (by omega)⟩
      rcases Nat.lt_succ_iff_lt_or_eq.mp hk with e | e
      · exact g k e
      · subst e; exact hp
theorem minO_some {p : Nat → Bool} {f : Nat → Nat} : ∀ {n m}, minO p f n = some m → (∃ k, k < n ∧ p k = true ∧ f k = m) ∧ ∀ k, k < n → p k = true → m ≤ f k
  | 0, m, h => by cases h
  | n + 1, m, h => by
    simp only [minO] at h
    cases hp : p n with
    | true =>
      rw [if_pos hp] at h
      cases e : minO p f n with
      | none =>
        rw [e] at h
        cases h
        have := minO_none.mp e
        refine ⟨⟨n, by omega, hp, rfl⟩, fun k hk hk2 => ?_⟩
        rcases Nat.lt_succ_iff_lt_or_eq.mp hk with g | g
        · rw [this k g] at hk2; cases hk2
        · subst g; exact Nat.le_refl _
      | some b =>
        rw [e] at h
        cases h
        have ⟨⟨k, k1, k2, k3⟩, h2⟩ := minO_some e
        refine ⟨?_, fun k hk hk2 => ?_⟩
        · by_cases g : b ≤ f n
          · exact ⟨k, by omega, k2, by omega⟩
          · exact ⟨n, by omega, hp, by omega⟩
        · rcases Nat.lt_succ_iff_lt_or_eq.mp hk with g | g
          · have := h2 k g hk2; omega
          · subst g; omega
    | false =>
      rw [if_neg (by rw [hp]; decide)] at h
      have ⟨⟨k, k1, k2, k3⟩, h2⟩ := minO_some h
      refine ⟨⟨k, by omega, k2, k3⟩, fun j hj hj2 => ?_⟩
      rcases Nat.lt_succ_iff_lt_or_eq.mp hj with g | g
      · exact h2 j g hj2
      · subst g; rw [hp] at hj2; cases hj2
/-- the least of what f makes of those of which p holds -/
def leastB (p : Nat → Bool) (f : Nat → Nat) (n : Nat) : Nat := (minO p f n).getD 0
theorem leastB_spec {p : Nat → Bool} {f : Nat → Nat} {n : Nat} (h : ∃ k, k < n ∧ p k = true) : (∃ k, k < n ∧ p k = true ∧ f k = leastB p f n) ∧ ∀ k, k < n → p k = true → leastB p f n ≤ f k := by
  unfold leastB
  cases e : minO p f n with
  | none =>
    obtain ⟨k, h1, h2⟩ := h
    rw [minO_none.mp e k h1] at h2
    cases h2
  | some m => exact minO_some e
theorem leastB_uniq {p : Nat → Bool} {f : Nat → Nat} {n m : Nat} (h : ∃ k, k < n ∧ p k = true ∧ f k = m) (h2 : ∀ k, k < n → p k = true → m ≤ f k) : leastB p f n = m := by
  obtain ⟨k, h1, h3, h4⟩ := h
  have ⟨⟨j, j1, j2, j3⟩, g⟩ := leastB_spec (f := f) ⟨k, h1, h3⟩
  have a := g k h1 h3
  have b := h2 j j1 j2
  omega
/-- a pair, one of which is in G and the other one not -/
def pcB (N G c : Nat) : Bool := decide (c / 32 < N) && decide (c % 32 < N) && G.testBit (c / 32) && !G.testBit (c % 32)
def mkk (X Y : Nat → Nat) (N G : Nat) : Nat := leastB (pcB N G) (fun c => kf X Y (c / 32) (c % 32)) 1024
theorem pc_pair {N G p q : Nat} (hN : N ≤ 24) (hp : p < N) (hq : q < N) (h1 : G.testBit p = true) (h2 : G.testBit q = false) : p * 32 + q < 1024 ∧ pcB N G (p * 32 + q) = true ∧ (p * 32 + q) / 32 = p ∧ (p * 32 + q) % 32 = q := by
  have e1 : (p * 32 + q) / 32 = p := by omega
  have e2 : (p * 32 + q) % 32 = q := by omega
  refine ⟨by omega, ?_, e1, e2⟩
  unfold pcB
  rw [e1, e2, h1, h2]
  simp [hp, hq]
theorem pc_of {N G c : Nat} (h : pcB N G c = true) : c / 32 < N ∧ c % 32 < N ∧ G.testBit (c / 32) = true ∧ G.testBit (c % 32) = false := by
  unfold pcB at h
  simp at h
  exact ⟨h.1.1.1, h.1.1.2, h.1.2, h.2⟩
theorem mkk_spec {X Y : Nat → Nat} {N G : Nat} (hN : N ≤ 24) (h : ∃ p q, p < N ∧ q < N ∧ G.testBit p = true ∧ G.testBit q = false) :
    (∃ p q, p < N ∧ q < N ∧ G.testBit p = true ∧ G.testBit q = false ∧ mkk X Y N G = kf X Y p q) ∧ ∀ p q, p < N → q < N → G.testBit p = true → G.testBit q = false → mkk X Y N G ≤ kf X Y p q := by
  obtain ⟨p, q, hp, hq, h1, h2⟩ := h
  have ⟨a1, a2, a3, a4⟩ := pc_pair hN hp hq h1 h2
  have ⟨⟨c, c1, c2, c3⟩, g⟩ := leastB_spec (f := fun c => kf X Y (c / 32) (c % 32)) ⟨_, a1, a2⟩
  have ⟨d1, d2, d3, d4⟩ := pc_of c2
  refine ⟨⟨c / 32, c % 32, d1, d2, d3, d4, c3.symm⟩, fun p q hp hq h1 h2 => ?_⟩
  have ⟨a1, a2, a3, a4⟩ := pc_pair hN hp hq h1 h2
  have := g _ a1 a2
  rw [a3, a4] at this
  exact this
/-- the new one of a pair -/
def vxB (G k : Nat) : Nat := if G.testBit (k % 32) = true then k / 32 % 32 else k % 32
theorem vx_kf {X Y : Nat → Nat} {G p q : Nat} (hp : p < 32) (hq : q < 32) (h1 : G.testBit p = true) (h2 : G.testBit q = false) : vxB G (kf X Y p q) = q := by
  unfold vxB
  rw [kf_max hp hq, kf_min hp hq]
  rcases Nat.lt_trichotomy p q with e | e | e
  · rw [Nat.max_eq_right (by omega), if_neg (by rw [h2]; decide)]
  · subst e; rw [h1] at h2; cases h2
  · rw [Nat.max_eq_left (by omega), if_pos h1, Nat.min_eq_right (by omega)]
theorem mkk_uniq {X Y : Nat → Nat} {N G p q : Nat} (hN : N ≤ 24) (hp : p < N) (hq : q < N) (h1 : G.testBit p = true) (h2 : G.testBit q = false)
    (h : ∀ p' q', p' < N → q' < N → G.testBit p' = true → G.testBit q' = false → kf X Y p q ≤ kf X Y p' q') : mkk X Y N G = kf X Y p q ∧ vxB G (mkk X Y N G) = q := by
  have ⟨⟨r, s, r1, s1, r2, s2, e⟩, g⟩ := mkk_spec (X := X) (Y := Y) hN ⟨p, q, hp, hq, h1, h2⟩
  have a := g p q hp hq h1 h2
  have b := h r s r1 s1 r2 s2
  have e2 : mkk X Y N G = kf X Y p q := by omega
  exact ⟨e2, by rw [e2]; exact vx_kf (by omega) (by omega) h1 h2⟩
/-- who is in the tree after t steps -/
def GG (X Y : Nat → Nat) (N : Nat) : Nat → Nat
  | 0 => 1
  | t + 1 => GG X Y N t ||| 2 ^ vxB (GG X Y N t) (mkk X Y N (GG X Y N t))
def CK (X Y : Nat → Nat) (N t : Nat) : Nat := mkk X Y N (GG X Y N t)
def VX (X Y : Nat → Nat) (N t : Nat) : Nat := vxB (GG X Y N t) (CK X Y N t)
theorem GG_succ (X Y : Nat → Nat) (N t : Nat) : GG X Y N (t + 1) = GG X Y N t ||| 2 ^ VX X Y N t := rfl
theorem cnt_bit1 : ∀ n, cntB (Nat.testBit 1) (n + 1) = 1
  | 0 => rfl
  | n + 1 => by
    have ih := cnt_bit1 n
    simp only [cntB] at ih ⊢
    rw [ih, show Nat.testBit 1 (n + 1) = false by rw [show (1 : Nat) = 2 ^ 0 from rfl, Nat.testBit_two_pow]; simp]
    rfl
theorem cnt_or {G v : Nat} (h : G.testBit v = false) : ∀ n, cntB (G ||| 2 ^ v).testBit n = cntB G.testBit n + (if v < n then 1 else 0)
  | 0 => by simp [cntB]
  | n + 1 => by
    have ih := cnt_or h n
    simp only [cntB]
    rw [ih, Nat.testBit_or, Nat.testBit_two_pow]
    by_cases e : v = n
    · subst e
      simp [h]
    · simp [e]
      by_cases e2 : v < n
      · simp [e2, show v < n + 1 by omega]; omega
      · simp [e2, show ¬ v < n + 1 by omega]
theorem cnt_all {p : Nat → Bool} : ∀ {n}, (∀ k, k < n → p k = true) → cntB p n = n
  | 0, _ => rfl
  | n + 1, h => by simp only [cntB]; rw [cnt_all (fun k hk => h k (by omega)), h n (by omega)]; rfl
theorem cnt_ex {p : Nat → Bool} {n : Nat} (h : cntB p n < n) : ∃ k, k < n ∧ p k = false := by
  cases e : fstB (fun k => !p k) n with
  | some k =>
    have := fstB_some.mp e
    exact ⟨k, this.1, by simpa using this.2.1⟩
  | none =>
    have := fstB_none.mp e
    rw [cnt_all (fun k hk => by simpa using this k hk)] at h
    omega
theorem GG_spec {X Y : Nat → Nat} {N : Nat} (hN : N ≤ 24) : ∀ t, t < N → (GG X Y N t).testBit 0 = true ∧ GG X Y N t < 2 ^ N ∧ cntB (GG X Y N t).testBit N = t + 1
  | 0, h => by
    refine ⟨(by decide : Nat.testBit 1 0 = true), Nat.lt_of_lt_of_le (show 1 < 2 ^ 1 by decide) (Nat.pow_le_pow_right (by omega) h), ?_⟩
    show cntB (Nat.testBit 1) N = 1
    rw [show N = (N - 1) + 1 by omega]
    exact cnt_bit1 _
  | t + 1, h => by
    have ⟨h1, h2, h3⟩ := GG_spec (X := X) (Y := Y) hN t (by omega)
    obtain ⟨q, q1, q2⟩ := cnt_ex (p := (GG X Y N t).testBit) (n := N) (by omega)
    have ⟨⟨r, s, r1, s1, r2, s2, e⟩, g⟩ := mkk_spec (X := X) (Y := Y) hN ⟨0, q, by omega, q1, h1, q2⟩
    have e2 : VX X Y N t = s := by
      show vxB _ (mkk X Y N _) = s
      rw [e]
      exact vx_kf (by omega) (by omega) r2 s2
    rw [GG_succ, e2]
    refine ⟨by rw [Nat.testBit_or, h1]; rfl, Nat.or_lt_two_pow h2 (Nat.pow_lt_pow_right (by omega) s1), ?_⟩
    rw [cnt_or s2, h3, if_pos s1]
theorem CK_spec {X Y : Nat → Nat} {N t : Nat} (hN : N ≤ 24) (ht : t + 1 < N) : (∃ p, p < N ∧ VX X Y N t < N ∧ (GG X Y N t).testBit p = true ∧ (GG X Y N t).testBit (VX X Y N t) = false ∧ CK X Y N t = kf X Y p (VX X Y N t)) ∧
    ∀ p q, p < N → q < N → (GG X Y N t).testBit p = true → (GG X Y N t).testBit q = false → CK X Y N t ≤ kf X Y p q := by
  have ⟨h1, h2, h3⟩ := GG_spec (X := X) (Y := Y) hN t (by omega)
  obtain ⟨q, q1, q2⟩ := cnt_ex (p := (GG X Y N t).testBit) (n := N) (by omega)
  have ⟨⟨r, s, r1, s1, r2, s2, e⟩, g⟩ := mkk_spec (X := X) (Y := Y) hN ⟨0, q, by omega, q1, h1, q2⟩
  have e2 : VX X Y N t = s := by
    show vxB _ (mkk X Y N _) = s
    rw [e]
    exact vx_kf (by omega) (by omega) r2 s2
  rw [e2]
  exact ⟨⟨r, r1, s1, r2, s2, e⟩, g⟩
/-- keys put in order -/
def ikB (K : Nat → Nat) (k n : Nat) : Nat := match lstB (fun j => decide (K j ≤ k)) n with
  | some j => j + 1
  | none => 0
theorem ik_spec {K : Nat → Nat} {k n : Nat} : ikB K k n ≤ n ∧ (∀ j, ikB K k n ≤ j → j < n → k < K j) ∧ (0 < ikB K k n → K (ikB K k n - 1) ≤ k) := by
  unfold ikB
  cases h : lstB (fun j => decide (K j ≤ k)) n with
  | none =>
    refine ⟨Nat.zero_le _, fun j h1 h2 => ?_, fun h => by simp at h⟩
    have := lstB_none.mp h j h2
    simp at this
    omega
  | some i =>
    have ⟨h1, h2, h3⟩ := lstB_some.mp h
    refine ⟨by simp; omega, fun j g1 g2 => ?_, fun _ => ?_⟩
    · simp at g1
      have := h3 j (by omega) g2
      simp at this
      omega
    · simpa using h2
def KS (X Y : Nat → Nat) (N : Nat) : Nat → Nat → Nat
  | 0 => fun _ => 0
  | t + 1 => insB (KS X Y N t) (ikB (KS X Y N t) (CK X Y N t) t) (CK X Y N t)
theorem KS_succ (X Y : Nat → Nat) (N t : Nat) : KS X Y N (t + 1) = insB (KS X Y N t) (ikB (KS X Y N t) (CK X Y N t) t) (CK X Y N t) := rfl
/-- a key of a pair below N -/
def isK (X Y : Nat → Nat) (N k : Nat) : Prop := ∃ p q, p < q ∧ q < N ∧ k = kf X Y p q
theorem isK_of {X Y : Nat → Nat} {N p q : Nat} (hp : p < N) (hq : q < N) (h : p ≠ q) : isK X Y N (kf X Y p q) := by
  rcases Nat.lt_or_gt_of_ne h with e | e
  · exact ⟨p, q, e, hq, rfl⟩
  · exact ⟨q, p, e, hp, kf_comm X Y p q⟩
theorem CK_isK {X Y : Nat → Nat} {N t : Nat} (hN : N ≤ 24) (ht : t + 1 < N) : isK X Y N (CK X Y N t) := by
  have ⟨⟨p, p1, p2, p3, p4, e⟩, _⟩ := CK_spec (X := X) (Y := Y) hN ht
  rw [e]
  refine isK_of p1 p2 (fun g => ?_)
  rw [g, p4] at p3
  cases p3
theorem isK_spec {X Y : Nat → Nat} {N k : Nat} (hN : N ≤ 24) (h : isK X Y N k) : k / 32 % 32 < k % 32 ∧ k % 32 < N ∧ k = kf X Y (k / 32 % 32) (k % 32) ∧ k / 1024 = ap X Y (k / 32 % 32) (k % 32) := by
  obtain ⟨p, q, h1, h2, e⟩ := h
  have e1 : k / 32 % 32 = p := by rw [e, kf_min (by omega) (by omega), Nat.min_eq_left (by omega)]
  have e2 : k % 32 = q := by rw [e, kf_max (by omega) (by omega), Nat.max_eq_right (by omega)]
  have e3 : k / 1024 = ap X Y p q := by rw [e, kf_ap (by omega) (by omega)]
  rw [e1, e2]
  exact ⟨h1, h2, e, e3⟩
theorem insB_all {P : Nat → Prop} {f : Nat → Nat} {i v n : Nat} (hi : i ≤ n) (h : ∀ j, j < n → P (f j)) (hv : P v) : ∀ j, j < n + 1 → P (insB f i v j) := by
  intro j hj
  unfold insB
  split
  · exact h j (by omega)
  · split
    · exact hv
    · exact h (j - 1) (by omega)
theorem KS_isK {X Y : Nat → Nat} {N : Nat} (hN : N ≤ 24) : ∀ t, t < N → ∀ j, j < t → isK X Y N (KS X Y N t j)
  | 0, _ => fun j hj => by omega
  | t + 1, h => by
    rw [KS_succ]
    exact insB_all (P := isK X Y N) ik_spec.1 (KS_isK hN t (by omega)) (CK_isK hN h)
theorem isK_lt {X Y : Nat → Nat} {N k : Nat} (hN : N ≤ 24) (hI : IN N X Y) (h : isK X Y N k) : k < 2144000000 := by
  obtain ⟨p, q, h1, h2, e⟩ := h
  have := ap_lt (hI p (by omega)).1 (hI q h2).1 (hI p (by omega)).2 (hI q h2).2
  rw [e]
  unfold kf
  omega
