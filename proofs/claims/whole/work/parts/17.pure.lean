/-! ===== PURE 8: the class grows the tree ===== -/
theorem bstB_none {p : Nat → Bool} {lt : Nat → Nat → Bool} : ∀ {n}, bstB p lt n = none ↔ ∀ k, k < n → p k = false
  | 0 => ⟨fun _ k h => by omega, fun _ => rfl⟩
  | n + 1 => by
    simp only [bstB]
    cases hp : p n with
    | true =>
      simp only [if_true]
      refine ⟨fun g => ?_, fun g => by rw [g n (by omega)] at hp; cases hp⟩
      cases h : bstB p lt n with
      | none => rw [h] at g; cases g
      | some b => rw [h] at g; simp only [] at g; split at g <;> cases g
    | false =>
      simp only [if_neg (show ¬ (false = true) by decide)]
      refine bstB_none.trans ⟨fun g k hk => ?_, fun g k hk => g k (by omega)⟩
      rcases Nat.lt_succ_iff_lt_or_eq.mp hk with e | e
      · exact g k e
      · subst e; exact hp
theorem bstB_some {p : Nat → Bool} {f : Nat → Nat} : ∀ {n b}, bstB p (fun a b => decide (f a < f b)) n = some b → b < n ∧ p b = true ∧ (∀ k, k < n → p k = true → f b ≤ f k) ∧ ∀ k, k < b → p k = true → f b < f k
  | 0, b, h => by cases h
  | n + 1, b, h => by
    simp only [bstB] at h
    cases hp : p n with
    | true =>
      rw [if_pos hp] at h
      cases e : bstB p (fun a b => decide (f a < f b)) n with
      | none =>
        rw [e] at h
        cases h
        have := bstB_none.mp e
        refine ⟨by omega, hp, fun k hk hk2 => ?_, fun k hk hk2 => ?_⟩
        · rcases Nat.lt_succ_iff_lt_or_eq.mp hk with g | g
          · rw [this k g] at hk2; cases hk2
          · subst g; exact Nat.le_refl _
        · rw [this k hk] at hk2; cases hk2
      | some c =>
        have ⟨h1, h2, h3, h4⟩ := bstB_some e
        rw [e] at h
        by_cases g : f n < f c
        · simp [g] at h
          subst h
          refine ⟨by omega, hp, fun k hk hk2 => ?_, fun k hk hk2 => ?_⟩
          · rcases Nat.lt_succ_iff_lt_or_eq.mp hk with q | q
            · have := h3 k q hk2; omega
            · subst q; omega
          · have := h3 k hk hk2; omega
        · simp [g] at h
          subst h
          refine ⟨by omega, h2, fun k hk hk2 => ?_, h4⟩
          rcases Nat.lt_succ_iff_lt_or_eq.mp hk with q | q
          · exact h3 k q hk2
          · subst q; omega
    | false =>
      rw [if_neg (by rw [hp]; decide)] at h
      have ⟨h1, h2, h3, h4⟩ := bstB_some h
      refine ⟨by omega, h2, fun k hk hk2 => ?_, h4⟩
      rcases Nat.lt_succ_iff_lt_or_eq.mp hk with q | q
      · exact h3 k q hk2
      · subst q; rw [hp] at hk2; cases hk2
theorem bstB_lt {p : Nat → Bool} {lt : Nat → Nat → Bool} : ∀ {n b}, bstB p lt n = some b → b < n ∧ p b = true
  | 0, b, h => by cases h
  | n + 1, b, h => by
    simp only [bstB] at h
    cases hp : p n with
    | true =>
      rw [if_pos hp] at h
      cases e : bstB p lt n with
      | none => rw [e] at h; cases h; exact ⟨by omega, hp⟩
      | some c =>
        have ⟨h1, h2⟩ := bstB_lt e
        rw [e] at h
        simp only [] at h
        split at h
        · cases h; exact ⟨by omega, hp⟩
        · cases h; exact ⟨by omega, h2⟩
    | false =>
      rw [if_neg (by rw [hp]; decide)] at h
      have ⟨h1, h2⟩ := bstB_lt h
      exact ⟨by omega, h2⟩
theorem bstB_congr {p q : Nat → Bool} {lt lt2 : Nat → Nat → Bool} : ∀ {n}, (∀ k, k < n → p k = q k) → (∀ a b, b < a → a < n → p a = true → p b = true → lt a b = lt2 a b) → bstB p lt n = bstB q lt2 n
  | 0, _, _ => rfl
  | n + 1, h, h2 => by
    simp only [bstB]
    have ih := bstB_congr (n := n) (fun k hk => h k (by omega)) (fun a b h3 h4 => h2 a b h3 (by omega))
    rw [← h n (by omega), ← ih]
    cases hp : p n with
    | false => rfl
    | true =>
      simp only [if_true]
      cases e : bstB p lt n with
      | none => rfl
      | some b =>
        have := bstB_lt e
        simp only []
        rw [h2 n b this.1 (by omega) hp this.2]
def outG (G k : Nat) : Bool := decide (1 ≤ k) && !G.testBit k
theorem grow2 {F N G : Nat} {L : Nat → Nat} {links : Nat → Int64} (hF : 1000 ≤ F) (hN : N ≤ 24) (h1N : 1 ≤ N) (hG : G < 2 ^ 31)
    (hl : ∀ i, 1 ≤ i → i < N → G.testBit i = false → links i = lN (L i) ∧ L i < 2144000000) :
    mX2_nextToGrow F (nI G) (nI N) links = some (oI (bstB (outG G) (fun a b => decide (L a < L b)) N)) := by
  unfold mX2_nextToGrow
  refine lp (fun k => (oI (bstB (outG G) (fun a b => decide (L a < L b)) k), nI k)) 1 N _ h1N (by simp [bstB, outG, oI]; rfl) (fun k hk1 hk => ?_) ?_ (by omega)
  · cases hb : G.testBit k
    · have ho : outG G k = true := by simp [outG, hb, hk1]
      cases e : bstB (outG G) (fun a b => decide (L a < L b)) k with
      | none => simp (disch := omega) [mX2_nextToGrow_b4, Option.bind_some, nI_leE, nI_ltE, nI_eqE, nI_1, nI_add, rdI_n, rdL_n, wrI_n, wrL_n, has6b, has9b, bI_0, bI_1, nI_m1, nI_lt0, nI_le0, nI_0le, nI_eq0, leF, leT, ltF, ltT, eqF, hb, bstB, ho, e, oI]
      | some b =>
        have ⟨b1, b2, _, _⟩ := bstB_some e
        simp [outG] at b2
        have ⟨l1, l2⟩ := hl b b2.1 (by omega) b2.2
        have ⟨l3, l4⟩ := hl k hk1 hk hb
        have hc : (0 ≤ lg_cmp (links k) (links b)) = (L b ≤ L k) := by rw [l1, l3, propext (lg_cmp_ge _ _), lN_leE (by omega) (by omega)]
        by_cases g : L b ≤ L k
        · have g2 : ¬ L k < L b := by omega
          simp (disch := omega) [mX2_nextToGrow_b4, Option.bind_some, nI_leE, nI_ltE, nI_eqE, nI_1, nI_add, rdI_n, rdL_n, wrI_n, wrL_n, has6b, has9b, bI_0, bI_1, nI_m1, nI_lt0, nI_le0, nI_0le, nI_eq0, leF, leT, ltF, ltT, eqF, hb, bstB, ho, e, oI, hc, g, g2]
        · have g2 : L k < L b := by omega
          simp (disch := omega) [mX2_nextToGrow_b4, Option.bind_some, nI_leE, nI_ltE, nI_eqE, nI_1, nI_add, rdI_n, rdL_n, wrI_n, wrL_n, has6b, has9b, bI_0, bI_1, nI_m1, nI_lt0, nI_le0, nI_0le, nI_eq0, leF, leT, ltF, ltT, eqF, hb, bstB, ho, e, oI, hc, g, g2]
    · have ho : outG G k = false := by simp [outG, hb]
      simp (disch := omega) [mX2_nextToGrow_b4, Option.bind_some, nI_leE, nI_ltE, nI_eqE, nI_1, nI_add, rdI_n, rdL_n, wrI_n, wrL_n, has6b, has9b, bI_0, bI_1, nI_m1, nI_lt0, nI_le0, nI_0le, nI_eq0, leF, leT, ltF, ltT, eqF, hb, bstB, ho]
  · simp (disch := omega) [mX2_nextToGrow_b4, Option.bind_some, nI_leE, nI_ltE, nI_eqE, nI_1, nI_add, rdI_n, rdL_n, wrI_n, wrL_n, has6b, has9b, bI_0, bI_1, nI_m1, nI_lt0, nI_le0, nI_0le, nI_eq0, leF, leT, ltF, ltT, eqF]
/-- one row of longs while a place is being made at i -/
def gapL (N : Nat) (K : Nat → Nat) (i : Nat) (t : Nat → Int64) : Prop := ∀ j, j ≤ N → (j < i → t j = lN (K j)) ∧ (i < j → t j = lN (K (j - 1)))
theorem gapL_step {N : Nat} {K : Nat → Nat} {i : Nat} {t : Nat → Int64} (hi : 0 < i) (h : gapL N K i t) (hN : i ≤ N) : gapL N K (i - 1) (vp_updL t i (t (i - 1))) := by
  intro j hj
  have ⟨h1, h2⟩ := h j hj
  have ⟨g1, g2⟩ := h (i - 1) (by omega)
  refine ⟨fun e => ?_, fun e => ?_⟩
  · rw [pk_uLn (show j ≠ i by omega)]; exact h1 (by omega)
  · by_cases e2 : j = i
    · subst e2; rw [pk_uLs]; exact g1 (by omega)
    · rw [pk_uLn e2]; exact h2 (by omega)
theorem gapL_end {N : Nat} {K : Nat → Nat} {i v : Nat} {t : Nat → Int64} (h : gapL N K i t) (hi : i ≤ N) : ∀ j, j < N + 1 → vp_updL t i (lN v) j = lN (insB K i v j) := by
  intro j hj
  have ⟨h1, h2⟩ := h j (by omega)
  unfold insB
  by_cases e1 : j < i
  · rw [pk_uLn (show j ≠ i by omega), if_pos e1]; exact h1 e1
  · by_cases e2 : j = i
    · subst e2; rw [pk_uLs, if_neg e1, if_pos rfl]
    · rw [pk_uLn e2, if_neg e1, if_neg e2]; exact h2 (by omega)
theorem putKey2 {F n v : Nat} {K : Nat → Nat} {keys : Nat → Int64} (hF : 1000 ≤ F) (hn : n < 24) (hv : v < 2144000000) (hK : ∀ j, j < n → K j < 2144000000) (hk : ∀ j, j < n → keys j = lN (K j)) :
    ∃ keys', mX2_putKey F (lN v) (nI n) keys = some (nI (n + 1), keys') ∧ ∀ j, j < n + 1 → keys' j = lN (insB K (ikB K v n) v j) := by
  have ⟨s1, s2, s3⟩ := ik_spec (K := K) (k := v) (n := n)
  generalize ikB K v n = i0 at s1 s2 s3 ⊢
  unfold mX2_putKey
  rw [if_pos (by rw [c24, nI_ltE (by omega) (by omega)]; exact hn)]
  refine (lpI (body := fun s15 : Int32 × (Nat → Int64) => mX2_putKey_b15 F (lN v) (nI n) s15.1 s15.2) (F := F)
    (fun k (t : Nat → Int64) => (nI (n - k), t)) (fun k t => gapL n K (n - k) t) 0 (n - i0) (fun t => (nI (n + 1), vp_updL t i0 (lN v))) keys (by omega) (s0 := (nI n, keys)) rfl
    (fun j hj => ⟨fun e => hk j e, fun e => by omega⟩) (fun k t _ hk hI2 => ?_) (fun t hI2 => ?_) (by omega)).elim (fun t ht => ⟨_, ht.1, gapL_end (by have := ht.2; rw [show n - (n - i0) = i0 by omega] at this; exact this) s1⟩)
  · refine ⟨_, ?_, by have := gapL_step (by omega) hI2 (by omega); rw [show n - k - 1 = n - (k + 1) by omega] at this; exact this⟩
    have g := (hI2 (n - (k + 1)) (by omega)).1 (by omega)
    have q := s2 (n - (k + 1)) (by omega) (by omega)
    have q2 := hK (n - (k + 1)) (by omega)
    have e1 : nI (n - k) - 1 = nI (n - (k + 1)) := nI_s1 (a := n - k) (by omega)
    have e2 : nI (n - k) + -1 = nI (n - (k + 1)) := nI_a1 (a := n - k) (by omega)
    have hc : (lg_cmp (lN (K (n - (k + 1)))) (lN v) ≤ 0) = False := by
      rw [propext (lg_cmp_le _ _), lN_leE (by omega) (by omega)]
      exact eq_false (by omega)
    simp (disch := omega) [mX2_putKey_b15, Option.bind_some, nI_leE, nI_ltE, nI_eqE, nI_1, nI_add, rdI_n, rdL_n, wrI_n, wrL_n, has6b, has9b, bI_0, bI_1, nI_m1, nI_lt0, nI_le0, nI_0le, nI_eq0, leF, leT, ltF, ltT, eqF, e1, e2, g, hc]
  · rw [show n - (n - i0) = i0 by omega] at hI2 ⊢
    by_cases h0 : i0 = 0
    · subst h0
      simp (disch := omega) [mX2_putKey_b15, Option.bind_some, nI_leE, nI_ltE, nI_eqE, nI_1, nI_add, rdI_n, rdL_n, wrI_n, wrL_n, has6b, has9b, bI_0, bI_1, nI_m1, nI_lt0, nI_le0, nI_0le, nI_eq0, leF, leT, ltF, ltT, eqF]
    · have g := (hI2 (i0 - 1) (by omega)).1 (by omega)
      have q := s3 (by omega)
      have q2 := hK (i0 - 1) (by omega)
      have e1 : nI i0 - 1 = nI (i0 - 1) := nI_s1 (by omega)
      have hc : (lg_cmp (lN (K (i0 - 1))) (lN v) ≤ 0) = True := by
        rw [propext (lg_cmp_le _ _), lN_leE (by omega) (by omega)]
        exact eq_true q
      simp (disch := omega) [mX2_putKey_b15, Option.bind_some, nI_leE, nI_ltE, nI_eqE, nI_1, nI_add, rdI_n, rdL_n, wrI_n, wrL_n, has6b, has9b, bI_0, bI_1, nI_m1, nI_lt0, nI_le0, nI_0le, nI_eq0, leF, leT, ltF, ltT, eqF, e1, g, hc, h0]
/-- the least key from G to i -/
def LL (X Y : Nat → Nat) (N G i : Nat) : Nat := leastB G.testBit (fun p => kf X Y p i) N
theorem LL_1 {X Y : Nat → Nat} {N i : Nat} (hN : 1 ≤ N) : LL X Y N 1 i = kf X Y 0 i := by
  unfold LL
  refine leastB_uniq ⟨0, by omega, by decide, rfl⟩ (fun k hk hk2 => ?_)
  have : k = 0 := by
    rw [show (1 : Nat) = 2 ^ 0 from rfl, Nat.testBit_two_pow] at hk2
    simp at hk2; omega
  rw [this]
  exact Nat.le_refl _
theorem LL_or {X Y : Nat → Nat} {N G v i : Nat} (hv : v < N) (h0 : G.testBit 0 = true) : LL X Y N (G ||| 2 ^ v) i = min (LL X Y N G i) (kf X Y v i) := by
  unfold LL
  have ⟨⟨k, k1, k2, k3⟩, g⟩ := leastB_spec (p := G.testBit) (f := fun p => kf X Y p i) (n := N) ⟨0, by omega, h0⟩
  refine leastB_uniq ?_ (fun j hj hj2 => ?_)
  · by_cases e : leastB G.testBit (fun p => kf X Y p i) N ≤ kf X Y v i
    · exact ⟨k, k1, by rw [Nat.testBit_or, k2]; rfl, by rw [Nat.min_eq_left e]; exact k3⟩
    · exact ⟨v, hv, by rw [Nat.testBit_or, Nat.testBit_two_pow]; simp, by rw [Nat.min_eq_right (by omega)]⟩
  · rw [Nat.testBit_or, Nat.testBit_two_pow] at hj2
    by_cases e : G.testBit j = true
    · have := g j hj e
      omega
    · have e2 : v = j := by
        rw [Bool.not_eq_true _ |>.mp e] at hj2
        simpa using hj2
      subst e2
      omega
theorem kf_lt {X Y : Nat → Nat} {N p q : Nat} (hN : N ≤ 24) (hI : IN N X Y) (hp : p < N) (hq : q < N) : kf X Y p q < 2144000000 := by
  have := ap_lt (hI p hp).1 (hI q hq).1 (hI p hp).2 (hI q hq).2
  unfold kf
  omega
theorem LL_lt {X Y : Nat → Nat} {N G i : Nat} (hN : N ≤ 24) (hI : IN N X Y) (hi : i < N) (h0 : G.testBit 0 = true) : LL X Y N G i < 2144000000 := by
  unfold LL
  have ⟨⟨k, k1, k2, k3⟩, g⟩ := leastB_spec (p := G.testBit) (f := fun p => kf X Y p i) (n := N) ⟨0, by omega, h0⟩
  rw [← k3]
  exact kf_lt hN hI k1 hi
theorem next_spec {X Y : Nat → Nat} {N t : Nat} (hN : N ≤ 24) (ht : t + 1 < N) :
    bstB (outG (GG X Y N t)) (fun a b => decide (LL X Y N (GG X Y N t) a < LL X Y N (GG X Y N t) b)) N = some (VX X Y N t) ∧ LL X Y N (GG X Y N t) (VX X Y N t) = CK X Y N t := by
  have ⟨h1, h2, h3⟩ := GG_spec (X := X) (Y := Y) hN t (by omega)
  obtain ⟨q, q1, q2⟩ := cnt_ex (p := (GG X Y N t).testBit) (n := N) (by omega)
  have ho : ∀ k, outG (GG X Y N t) k = true ↔ (GG X Y N t).testBit k = false := by
    intro k
    unfold outG
    cases hb : (GG X Y N t).testBit k with
    | true => simp
    | false =>
      simp
      cases k with
      | zero => rw [h1] at hb; cases hb
      | succ k => omega
  cases e : bstB (outG (GG X Y N t)) (fun a b => decide (LL X Y N (GG X Y N t) a < LL X Y N (GG X Y N t) b)) N with
  | none =>
    have := bstB_none.mp e q q1
    rw [(ho q).mpr q2] at this
    cases this
  | some b =>
    have ⟨b1, b2, b3, b4⟩ := bstB_some e
    have b5 := (ho b).mp b2
    have ⟨⟨k, k1, k2, k3⟩, g⟩ := leastB_spec (p := (GG X Y N t).testBit) (f := fun p => kf X Y p b) (n := N) ⟨0, by omega, h1⟩
    have u := mkk_uniq (X := X) (Y := Y) hN k1 b1 k2 b5 (fun p' q' hp' hq' h1' h2' => by
      have a := b3 q' hq' ((ho q').mpr h2')
      have ⟨_, g'⟩ := leastB_spec (p := (GG X Y N t).testBit) (f := fun p => kf X Y p q') (n := N) ⟨0, by omega, h1⟩
      have c := g' p' hp' h1'
      have d : kf X Y k b = LL X Y N (GG X Y N t) b := k3
      have d2 : LL X Y N (GG X Y N t) q' ≤ kf X Y p' q' := c
      omega)
    have e2 : VX X Y N t = b := u.2
    have e3 : CK X Y N t = kf X Y k b := u.1
    rw [e2]
    exact ⟨rfl, by rw [e3]; exact k3.symm⟩
theorem grow2_b82 {F N G v : Nat} {X Y : Nat → Nat} {xs ys : Nat → Int32} {links : Nat → Int64} (hF : 1000 ≤ F) (hN : N ≤ 24) (h1N : 1 ≤ N) (hP : PT N X Y xs ys) (hI : IN N X Y) (hG : G < 2 ^ N) (hv : v < N) (h0 : G.testBit 0 = true)
    (hl : ∀ i, 1 ≤ i → i < N → G.testBit i = false → links i = lN (LL X Y N G i)) :
    ∃ links', loop (fun s82 : Int32 × (Nat → Int64) => mX2_growTree_b82 F (nI N) xs ys (nI v) (nI (G ||| 2 ^ v)) s82.1 s82.2) F ((1 : Int32), links) = some links' ∧
      ∀ i, 1 ≤ i → i < N → (G ||| 2 ^ v).testBit i = false → links' i = lN (LL X Y N (G ||| 2 ^ v) i) := by
  have hG2 : G ||| 2 ^ v < 2 ^ N := Nat.or_lt_two_pow hG (Nat.pow_lt_pow_right (by omega) hv)
  have hG3 : G ||| 2 ^ v < 2 ^ 31 := Nat.lt_of_lt_of_le hG2 (Nat.pow_le_pow_right (by omega) (by omega))
  refine Exists.elim (lpI (body := fun s82 : Int32 × (Nat → Int64) => mX2_growTree_b82 F (nI N) xs ys (nI v) (nI (G ||| 2 ^ v)) s82.1 s82.2) (F := F)
    (fun k (t : Nat → Int64) => (nI k, t)) (fun k t => ∀ i, 1 ≤ i → i < N → (G ||| 2 ^ v).testBit i = false → t i = if i < k then lN (LL X Y N (G ||| 2 ^ v) i) else lN (LL X Y N G i)) 1 N (fun t => t) links h1N (s0 := ((1 : Int32), links)) rfl
    (fun i h1 h2 h3 => by
      rw [if_neg (by omega)]
      rw [Nat.testBit_or] at h3
      exact hl i h1 h2 (by simp at h3; exact h3.1)) (fun k t hk1 hk hI2 => ?_) (fun t hI2 => ?_) (by omega)) ?_
  rotate_right 1
  · intro t hh_; obtain ⟨e, hg⟩ := hh_
    refine ⟨t, e, fun i h1 h2 h3 => ?_⟩
    have := hg i h1 h2 h3
    rw [if_pos h2] at this
    exact this
  · cases hb : (G ||| 2 ^ v).testBit k with
    | true =>
      refine ⟨t, by simp (disch := omega) [mX2_growTree_b82, Option.bind_some, nI_leE, nI_ltE, nI_eqE, nI_1, nI_add, rdI_n, rdL_n, wrI_n, wrL_n, has6b, has9b, bI_0, bI_1, nI_m1, nI_lt0, nI_le0, nI_0le, nI_eq0, leF, leT, ltF, ltT, eqF, hb], fun i h1 h2 h3 => ?_⟩
      have := hI2 i h1 h2 h3
      have e2 : i ≠ k := fun e2 => by rw [e2, hb] at h3; cases h3
      rw [this]
      by_cases e3 : i < k
      · rw [if_pos e3, if_pos (by omega)]
      · rw [if_neg e3, if_neg (by omega)]
    | false =>
      have tk := hI2 k hk1 hk hb
      rw [if_neg (by omega)] at tk
      have k2 := key2 (F := F) hN hP hI hv hk
      have b1 := kf_lt hN hI hv hk
      have b2 := LL_lt hN hI hk h0 (X := X) (Y := Y)
      have hm : (if lN (kf X Y v k) < lN (LL X Y N G k) then lN (kf X Y v k) else lN (LL X Y N G k)) = lN (LL X Y N (G ||| 2 ^ v) k) := by
        rw [LL_or hv h0]
        by_cases q : kf X Y v k < LL X Y N G k
        · rw [if_pos (by rw [lN_ltE (by omega) (by omega)]; exact q), Nat.min_eq_right (by omega)]
        · rw [if_neg (by rw [lN_ltE (by omega) (by omega)]; exact q), Nat.min_eq_left (by omega)]
      refine ⟨vp_updL t k (lN (LL X Y N (G ||| 2 ^ v) k)), by simp (disch := omega) [mX2_growTree_b82, Option.bind_some, nI_leE, nI_ltE, nI_eqE, nI_1, nI_add, rdI_n, rdL_n, wrI_n, wrL_n, has6b, has9b, bI_0, bI_1, nI_m1, nI_lt0, nI_le0, nI_0le, nI_eq0, leF, leT, ltF, ltT, eqF, hb, tk, k2, hm], fun i h1 h2 h3 => ?_⟩
      by_cases e2 : i = k
      · subst e2
        rw [pk_uLs, if_pos (by omega)]
      · rw [pk_uLn e2, hI2 i h1 h2 h3]
        by_cases e3 : i < k
        · rw [if_pos e3, if_pos (by omega)]
        · rw [if_neg e3, if_neg (by omega)]
  · simp (disch := omega) [mX2_growTree_b82, Option.bind_some, nI_leE, nI_ltE, nI_eqE, nI_1, nI_add, rdI_n, rdL_n, wrI_n, wrL_n, has6b, has9b, bI_0, bI_1, nI_m1, nI_lt0, nI_le0, nI_0le, nI_eq0, leF, leT, ltF, ltT, eqF]
theorem growTree2 {F N : Nat} {X Y : Nat → Nat} {xs ys : Nat → Int32} (hF : 1000 ≤ F) (hN : N ≤ 24) (hP : PT N X Y xs ys) (hI : IN N X Y) (c : Int32) (keys links : Nat → Int64) :
    ∃ keys' links', mX2_growTree F c (nI N) keys links xs ys = some (nI (N - 1), keys', links') ∧ ∀ j, j < N - 1 → keys' j = lN (KS X Y N (N - 1) j) := by
  unfold mX2_growTree
  by_cases h1N : N = 0
  · subst h1N
    have e1 : loop (fun s9 : Int32 × (Nat → Int64) => mX2_growTree_b9 F (nI 0) xs ys s9.1 s9.2) F ((1 : Int32), links) = some links :=
      lp (fun _ => ((1 : Int32), links)) 0 0 _ (by omega) rfl (fun k _ hk => by omega) (by simp only [mX2_growTree_b9, if_pos (show (nI 0 ≤ (1 : Int32)) by decide +kernel)]) (by omega)
    rw [e1]
    simp only [Option.bind_some]
    refine ⟨keys, links, ?_, fun j hj => by omega⟩
    refine lp (fun _ => ((1 : Int32), (1 : Int32), (0 : Int32), keys, links)) 0 0 _ (by omega) rfl (fun k _ hk => by omega) ?_ (by omega)
    have : (nI 0 ≤ (1 : Int32)) := by decide +kernel
    simp only [mX2_growTree_b40, if_pos this]
    rfl
  · obtain ⟨l1, e1, g1⟩ := lpI (body := fun s9 : Int32 × (Nat → Int64) => mX2_growTree_b9 F (nI N) xs ys s9.1 s9.2) (F := F)
      (fun k (t : Nat → Int64) => (nI k, t)) (fun k t => ∀ i, 1 ≤ i → i < k → t i = lN (kf X Y 0 i)) 1 N (fun t => t) links (by omega) (s0 := ((1 : Int32), links)) rfl
      (fun i h1 h2 => by omega) (fun k t hk1 hk hI2 => by
        have k2 := key2 (F := F) (p := 0) hN hP hI (by omega) hk
        refine ⟨vp_updL t k (lN (kf X Y 0 k)), by simp (disch := omega) [mX2_growTree_b9, c0, Option.bind_some, nI_leE, nI_ltE, nI_eqE, nI_1, nI_add, rdI_n, rdL_n, wrI_n, wrL_n, has6b, has9b, bI_0, bI_1, nI_m1, nI_lt0, nI_le0, nI_0le, nI_eq0, leF, leT, ltF, ltT, eqF, k2], fun i h1 h2 => ?_⟩
        by_cases e2 : i = k
        · subst e2; rw [pk_uLs]
        · rw [pk_uLn e2]; exact hI2 i h1 (by omega)) (fun t hI2 => by simp (disch := omega) [mX2_growTree_b9, Option.bind_some, nI_leE, nI_ltE, nI_eqE, nI_1, nI_add, rdI_n, rdL_n, wrI_n, wrL_n, has6b, has9b, bI_0, bI_1, nI_m1, nI_lt0, nI_le0, nI_0le, nI_eq0, leF, leT, ltF, ltT, eqF]) (by omega)
    rw [e1]
    simp only [Option.bind_some]
    refine Exists.elim (lpI (body := fun s40 : Int32 × Int32 × Int32 × (Nat → Int64) × (Nat → Int64) => mX2_growTree_b40 F (nI N) xs ys s40.1 s40.2.1 s40.2.2.1 s40.2.2.2.1 s40.2.2.2.2) (F := F)
      (fun k (t : (Nat → Int64) × (Nat → Int64)) => (nI (GG X Y N (k - 1)), nI k, nI (k - 1), t.1, t.2))
      (fun k t => (∀ j, j < k - 1 → t.1 j = lN (KS X Y N (k - 1) j)) ∧ ∀ i, 1 ≤ i → i < N → (GG X Y N (k - 1)).testBit i = false → t.2 i = lN (LL X Y N (GG X Y N (k - 1)) i)) 1 N (fun t => (nI (N - 1), t.1, t.2)) (keys, l1) (by omega) (s0 := ((1 : Int32), (1 : Int32), (0 : Int32), keys, l1)) rfl
      ⟨fun j hj => by omega, fun i h1 h2 h3 => (g1 i h1 h2).trans (congrArg lN (LL_1 (by omega)).symm)⟩ (fun k t hk1 hk hI2 => ?_) (fun t hI2 => ?_) (by omega)) ?_
    rotate_right 1
    · intro t hh_; obtain ⟨e, hg⟩ := hh_
      exact ⟨t.1, t.2, e, hg.1⟩
    · obtain ⟨s, rfl⟩ : ∃ s, k = s + 1 := ⟨k - 1, by omega⟩
      simp only [Nat.add_sub_cancel] at hI2 ⊢
      have ⟨h1, h2, h3⟩ := GG_spec (X := X) (Y := Y) hN s (by omega)
      have hG31 : GG X Y N s < 2 ^ 31 := Nat.lt_of_lt_of_le h2 (Nat.pow_le_pow_right (by omega) (by omega))
      have ⟨n1, n2⟩ := next_spec (X := X) (Y := Y) hN hk
      have ⟨⟨p, p1, p2, p3, p4, p5⟩, p6⟩ := CK_spec (X := X) (Y := Y) hN hk
      have hv0 : 1 ≤ VX X Y N s := by
        cases q : VX X Y N s with
        | zero => rw [q, h1] at p4; cases p4
        | succ r => omega
      have gr := grow2 (F := F) (L := LL X Y N (GG X Y N s)) (links := t.2) hF hN (by omega) hG31 (fun i g1 g2 g3 => ⟨hI2.2 i g1 g2 g3, LL_lt hN hI g2 h1⟩)
      rw [n1] at gr
      have lk := hI2.2 _ hv0 p2 p4
      rw [n2] at lk
      have kb : CK X Y N s < 2144000000 := by rw [p5]; exact kf_lt hN hI p1 p2
      obtain ⟨keys', pk, pg⟩ := putKey2 (F := F) (n := s) (v := CK X Y N s) (K := KS X Y N s) (keys := t.1) hF (by omega) kb (fun j hj => isK_lt hN hI (KS_isK hN s (by omega) j hj)) hI2.1
      obtain ⟨links', lb, lg⟩ := grow2_b82 (F := F) (v := VX X Y N s) (links := t.2) hF hN (by omega) hP hI h2 p2 h1 hI2.2
      have sb := setbit (m := GG X Y N s) (k := VX X Y N s) hG31 (by omega)
      have nm : (oI (some (VX X Y N s)) = -1) = False := nI_m1 (by omega)
      refine ⟨(keys', links'), ?_, pg, lg⟩
      simp only [oI] at gr nm
      simp (disch := omega) [mX2_growTree_b40, Option.bind_some, nI_leE, nI_ltE, nI_eqE, nI_1, nI_add, rdI_n, rdL_n, wrI_n, wrL_n, has6b, has9b, bI_0, bI_1, nI_m1, nI_lt0, nI_le0, nI_0le, nI_eq0, leF, leT, ltF, ltT, eqF, gr, lk, pk, sb, lb]
      rfl
    · simp (disch := omega) [mX2_growTree_b40, Option.bind_some, nI_leE, nI_ltE, nI_eqE, nI_1, nI_add, rdI_n, rdL_n, wrI_n, wrL_n, has6b, has9b, bI_0, bI_1, nI_m1, nI_lt0, nI_le0, nI_0le, nI_eq0, leF, leT, ltF, ltT, eqF]
