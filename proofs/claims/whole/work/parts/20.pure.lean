/-! ===== PURE 11: parts: how joins make parts of parts ===== -/
theorem or_bit (a b i : Nat) : (a ||| b).testBit i = (a.testBit i || b.testBit i) := Nat.testBit_or a b i
/-- what the rows of parts keep -/
def PART (N : Nat) (s : Nat → Nat) : Prop := ∀ p, p < N → (s p).testBit p = true ∧ s p < 2 ^ N ∧ ∀ q, q < N → (s p).testBit q = true → s q = s p
theorem sm_part {P Q : Nat → Nat} {N : Nat} : ∀ j, (∀ i, i < j → P i < N ∧ Q i < N) → PART N (smB P Q j)
  | 0, _ => by
    intro p hp
    refine ⟨by simp [smB, Nat.testBit_two_pow], Nat.pow_lt_pow_right (by omega) hp, fun q hq h => ?_⟩
    simp only [smB, Nat.testBit_two_pow] at h ⊢
    simp at h
    rw [h]
  | j + 1, h => by
    have ih := sm_part j (fun i hi => h i (by omega))
    have ⟨ha, hb⟩ := h j (by omega)
    have ⟨a1, a2, a3⟩ := ih (P j) ha
    have ⟨b1, b2, b3⟩ := ih (Q j) hb
    intro p hp
    have ⟨p1, p2, p3⟩ := ih p hp
    by_cases hm : (pmB P Q j).testBit p = true
    · have e : smB P Q (j + 1) p = pmB P Q j := if_pos hm
      rw [e]
      refine ⟨hm, Nat.or_lt_two_pow a2 b2, fun q hq h2 => if_pos h2⟩
    · have e : smB P Q (j + 1) p = smB P Q j p := if_neg hm
      rw [e]
      refine ⟨p1, p2, fun q hq h2 => ?_⟩
      have e2 := p3 q hq h2
      have hq2 : ¬ (pmB P Q j).testBit q = true := by
        intro g
        apply hm
        unfold pmB at g ⊢
        rw [or_bit] at g ⊢
        rcases Bool.or_eq_true _ _ |>.mp g with g | g
        · have := a3 q hq g
          rw [← this, e2, p1]; rfl
        · have := b3 q hq g
          rw [← this, e2, p1]; simp
      show smB P Q (j + 1) q = _
      rw [← e2]
      exact if_neg hq2
theorem part_symm {N : Nat} {s : Nat → Nat} (h : PART N s) {p q : Nat} (hp : p < N) (hq : q < N) (g : (s p).testBit q = true) : (s q).testBit p = true := by
  rw [(h p hp).2.2 q hq g]
  exact (h p hp).1
theorem part_eq {N : Nat} {s : Nat → Nat} (h : PART N s) {p q r : Nat} (hp : p < N) (hq : q < N) (hr : r < N) (g : (s p).testBit r = true) (g2 : (s q).testBit r = true) : s p = s q := by
  rw [← (h p hp).2.2 r hr g, ← (h q hq).2.2 r hr g2]
theorem pm_a {P Q : Nat → Nat} {N j : Nat} (h : PART N (smB P Q j)) (ha : P j < N) : (pmB P Q j).testBit (P j) = true := by
  unfold pmB; rw [or_bit, (h _ ha).1]; rfl
theorem pm_b {P Q : Nat → Nat} {N j : Nat} (h : PART N (smB P Q j)) (hb : Q j < N) : (pmB P Q j).testBit (Q j) = true := by
  unfold pmB; rw [or_bit, (h _ hb).1]; simp
theorem sm_step {P Q : Nat → Nat} {N j p q : Nat} (h : PART N (smB P Q j)) (ha : P j < N) (hb : Q j < N) (hp : p < N) (g : (smB P Q j p).testBit q = true) : (smB P Q (j + 1) p).testBit q = true := by
  by_cases hm : (pmB P Q j).testBit p = true
  · have e : smB P Q (j + 1) p = pmB P Q j := if_pos hm
    rw [e]
    unfold pmB at hm ⊢
    rw [or_bit] at hm ⊢
    rcases Bool.or_eq_true _ _ |>.mp hm with g2 | g2
    · have := (h _ ha).2.2 p hp g2
      rw [← this, g]; rfl
    · have := (h _ hb).2.2 p hp g2
      rw [← this, g]; simp
  · have e : smB P Q (j + 1) p = smB P Q j p := if_neg hm
    rw [e]; exact g
theorem sm_mono {P Q : Nat → Nat} {N p q : Nat} (hp : p < N) : ∀ j k, j ≤ k → (∀ i, i < k → P i < N ∧ Q i < N) → (smB P Q j p).testBit q = true → (smB P Q k p).testBit q = true
  | j, 0, h, _, g => by rw [show j = 0 by omega] at g; exact g
  | j, k + 1, h, hN, g => by
    rcases Nat.eq_or_lt_of_le h with e | e
    · rw [← e]; exact g
    · exact sm_step (sm_part k (fun i hi => hN i (by omega))) (hN k (by omega)).1 (hN k (by omega)).2 hp (sm_mono hp j k (by omega) (fun i hi => hN i (by omega)) g)
theorem pm_sub {P Q : Nat → Nat} {N j p : Nat} (hm : (pmB P Q j).testBit p = true) : smB P Q (j + 1) p = pmB P Q j := if_pos hm
/-- two are in one part by the first k joins, as soon as one of these made a part of both -/
theorem sm_pm {P Q : Nat → Nat} {N j k p q : Nat} (hp : p < N) (hjk : j < k) (hN : ∀ i, i < k → P i < N ∧ Q i < N) (g1 : (pmB P Q j).testBit p = true) (g2 : (pmB P Q j).testBit q = true) : (smB P Q k p).testBit q = true :=
  sm_mono hp (j + 1) k (by omega) hN (by rw [pm_sub (N := N) g1]; exact g2)
/-- the part of a point: the last made one that it is in -/
theorem sm_last {P Q : Nat → Nat} {p : Nat} : ∀ k, smB P Q k p = match lstB (fun j => (pmB P Q j).testBit p) k with | some j => pmB P Q j | none => 2 ^ p
  | 0 => rfl
  | k + 1 => by
    by_cases h : (pmB P Q k).testBit p = true
    · have e : lstB (fun j => (pmB P Q j).testBit p) (k + 1) = some k := if_pos h
      rw [e]
      exact if_pos h
    · have e : lstB (fun j => (pmB P Q j).testBit p) (k + 1) = lstB (fun j => (pmB P Q j).testBit p) k := if_neg h
      rw [e, ← sm_last k]
      exact if_neg h
theorem sm_in {P Q : Nat → Nat} {p q k : Nat} (hne : p ≠ q) (g : (smB P Q k p).testBit q = true) : ∃ j, j < k ∧ (pmB P Q j).testBit p = true ∧ (pmB P Q j).testBit q = true := by
  rw [sm_last] at g
  cases h : lstB (fun j => (pmB P Q j).testBit p) k with
  | none =>
    rw [h] at g
    simp only [Nat.testBit_two_pow] at g
    simp at g
    exact absurd g hne
  | some j =>
    rw [h] at g
    have := lstB_some.mp h
    exact ⟨j, this.1, this.2.1, g⟩
/-- heads of parts: their least ones -/
def hdB (s : Nat → Nat) (p : Nat) : Bool := decide (lo (s p) = p)
theorem lo_part {N : Nat} {s : Nat → Nat} (hN : N ≤ 24) (h : PART N s) {p : Nat} (hp : p < N) : lo (s p) < N ∧ (s p).testBit (lo (s p)) = true ∧ s (lo (s p)) = s p ∧ (∀ i, i < lo (s p) → (s p).testBit i = false) ∧ lo (s p) ≤ p := by
  have ⟨h1, h2, h3⟩ := h p hp
  have h4 : s p < 2 ^ 24 := Nat.lt_of_lt_of_le h2 (Nat.pow_le_pow_right (by omega) hN)
  have ⟨l1, l2, l3⟩ := lo_bit h4 (bit_ne0 h1)
  have l4 := bit_lt h2 l1
  refine ⟨l4, l1, h3 _ l4 l1, l3, Nat.le_of_not_lt (fun g => ?_)⟩
  rw [l3 p g] at h1
  cases h1
theorem cnt_drop {p q : Nat → Bool} {v : Nat} (hv : p v = true) (hv2 : q v = false) (h : ∀ k, k ≠ v → p k = q k) : ∀ n, cntB p n = cntB q n + (if v < n then 1 else 0)
  | 0 => rfl
  | n + 1 => by
    have ih := cnt_drop hv hv2 h n
    simp only [cntB]
    rw [ih]
    by_cases e : n = v
    · subst e
      rw [hv, hv2]
      simp
    · rw [h n e]
      by_cases e2 : v < n
      · simp [e2, show v < n + 1 by omega]; omega
      · simp [e2, show ¬ v < n + 1 by omega]
theorem lo_or {a b : Nat} (ha : a < 2 ^ 24) (hb : b < 2 ^ 24) (a0 : a ≠ 0) (b0 : b ≠ 0) : lo (a ||| b) = min (lo a) (lo b) := by
  have ⟨a1, a2, a3⟩ := lo_bit ha a0
  have ⟨b1, b2, b3⟩ := lo_bit hb b0
  refine lo_uniq (Nat.or_lt_two_pow ha hb) ?_ (fun i hi => ?_)
  · rw [or_bit]
    by_cases g : lo a ≤ lo b
    · rw [Nat.min_eq_left g, a1]; rfl
    · rw [Nat.min_eq_right (by omega), b1]; simp
  · rw [or_bit, a3 i (by omega), b3 i (by omega)]; rfl
/-- a join of two parts leaves one part less; of a part with itself, as many -/
theorem parts_step {P Q : Nat → Nat} {N j : Nat} (hN : N ≤ 24) (h : ∀ i, i < j + 1 → P i < N ∧ Q i < N) :
    (smB P Q j (P j) = smB P Q j (Q j) ∧ cntB (hdB (smB P Q (j + 1))) N = cntB (hdB (smB P Q j)) N) ∨ (smB P Q j (P j) ≠ smB P Q j (Q j) ∧ cntB (hdB (smB P Q j)) N = cntB (hdB (smB P Q (j + 1))) N + 1) := by
  have hp := sm_part (P := P) (Q := Q) (N := N) j (fun i hi => h i (by omega))
  have ⟨ha, hb⟩ := h j (by omega)
  have ⟨a1, a2, a3⟩ := hp _ ha
  have ⟨b1, b2, b3⟩ := hp _ hb
  by_cases e : smB P Q j (P j) = smB P Q j (Q j)
  · refine Or.inl ⟨e, cntB_congr (fun k hk => ?_)⟩
    have em : pmB P Q j = smB P Q j (P j) := by unfold pmB; rw [← e, Nat.or_self]
    unfold hdB
    congr 2
    by_cases hm : (pmB P Q j).testBit k = true
    · rw [pm_sub (N := N) hm, em]
      rw [em] at hm
      rw [a3 k hk hm]
    · exact congrArg lo (if_neg hm)
  · refine Or.inr ⟨e, ?_⟩
    have a4 : smB P Q j (P j) < 2 ^ 24 := Nat.lt_of_lt_of_le a2 (Nat.pow_le_pow_right (by omega) hN)
    have b4 : smB P Q j (Q j) < 2 ^ 24 := Nat.lt_of_lt_of_le b2 (Nat.pow_le_pow_right (by omega) hN)
    have la := lo_part hN hp ha
    have lb := lo_part hN hp hb
    have lm : lo (pmB P Q j) = min (lo (smB P Q j (P j))) (lo (smB P Q j (Q j))) := lo_or a4 b4 (bit_ne0 a1) (bit_ne0 b1)
    have hne : lo (smB P Q j (P j)) ≠ lo (smB P Q j (Q j)) := fun q => e (by rw [← la.2.2.1, ← lb.2.2.1, q])
    have key : ∀ v w, v < N → (v = lo (smB P Q j (P j)) ∧ w = lo (smB P Q j (Q j)) ∨ v = lo (smB P Q j (Q j)) ∧ w = lo (smB P Q j (P j))) → w < v →
        cntB (hdB (smB P Q j)) N = cntB (hdB (smB P Q (j + 1))) N + 1 := by
      intro v w hv hvw hwv
      have hmv : (pmB P Q j).testBit v = true := by
        unfold pmB; rw [or_bit]
        rcases hvw with ⟨g, _⟩ | ⟨g, _⟩
        · rw [g, la.2.1]; rfl
        · rw [g, lb.2.1]; simp
      have lmw : lo (pmB P Q j) = w := by rw [lm]; omega
      have e1 : hdB (smB P Q j) v = true := by
        unfold hdB
        rcases hvw with ⟨g, _⟩ | ⟨g, _⟩
        · rw [g, la.2.2.1]; simp
        · rw [g, lb.2.2.1]; simp
      have e2 : hdB (smB P Q (j + 1)) v = false := by
        unfold hdB
        rw [pm_sub (N := N) hmv, lmw]
        simp; omega
      have hfix : ∀ k, k < N → k ≠ v → hdB (smB P Q j) k = hdB (smB P Q (j + 1)) k := by
        intro k hk hkv
        unfold hdB
        by_cases hm : (pmB P Q j).testBit k = true
        · rw [pm_sub (N := N) hm, lmw]
          have : smB P Q j k = smB P Q j (P j) ∨ smB P Q j k = smB P Q j (Q j) := by
            unfold pmB at hm
            rw [or_bit] at hm
            rcases Bool.or_eq_true _ _ |>.mp hm with g | g
            · exact Or.inl (a3 k hk g)
            · exact Or.inr (b3 k hk g)
          apply decide_eq_decide.mpr
          rcases hvw with ⟨g1, g2⟩ | ⟨g1, g2⟩
          · rcases this with q | q
            · rw [q, ← g1]
              constructor
              · intro r; omega
              · intro r; rw [← r, g2] at hm; rw [← r, g2, lb.2.2.1] at q; exact absurd q.symm e
            · rw [q, ← g2]
          · rcases this with q | q
            · rw [q, ← g2]
            · rw [q, ← g1]
              constructor
              · intro r; omega
              · intro r; rw [← r, g2, la.2.2.1] at q; exact absurd q e
        · congr 2
          exact congrArg lo (if_neg hm).symm
      have hc : cntB (hdB (smB P Q (j + 1))) N = cntB (fun k => if k = v then false else hdB (smB P Q j) k) N := cntB_congr (fun k hk => by
        by_cases q : k = v
        · rw [if_pos q, q]; exact e2
        · rw [if_neg q]; exact (hfix k hk q).symm)
      rw [hc, cnt_drop (p := hdB (smB P Q j)) (q := fun k => if k = v then false else hdB (smB P Q j) k) (v := v) e1 (by simp) (fun k hk => by simp [hk]) N, if_pos hv]
    rcases Nat.lt_or_gt_of_ne hne with g | g
    · exact key _ _ lb.1 (Or.inr ⟨rfl, rfl⟩) g
    · exact key _ _ la.1 (Or.inl ⟨rfl, rfl⟩) g
theorem parts_0 (P Q : Nat → Nat) {N : Nat} (hN : N ≤ 24) : cntB (hdB (smB P Q 0)) N = N := cnt_all (fun k hk => by
  unfold hdB
  have : lo (smB P Q 0 k) = k := lo_uniq (Nat.pow_lt_pow_right (by omega) (by omega)) (by simp [smB, Nat.testBit_two_pow]) (fun i hi => by simp [smB, Nat.testBit_two_pow]; omega)
  simp [this])
/-- where N - 1 joins leave one part, each joins two parts -/
theorem parts_all {P Q : Nat → Nat} {N : Nat} (hN : N ≤ 24) (h1 : 1 ≤ N) (h : ∀ i, i < N - 1 → P i < N ∧ Q i < N) (hend : cntB (hdB (smB P Q (N - 1))) N = 1) :
    ∀ j, j ≤ N - 1 → cntB (hdB (smB P Q j)) N = N - j ∧ (j < N - 1 → smB P Q j (P j) ≠ smB P Q j (Q j)) := by
  have lower : ∀ m j, j + m = N - 1 → cntB (hdB (smB P Q j)) N ≤ m + 1 := by
    intro m
    induction m with
    | zero => intro j hj; rw [show j = N - 1 by omega, hend]; omega
    | succ m ih =>
      intro j hj
      have := ih (j + 1) (by omega)
      rcases parts_step (j := j) hN (fun i hi => h i (by omega)) with ⟨_, e⟩ | ⟨_, e⟩ <;> omega
  have upper : ∀ j, j ≤ N - 1 → N ≤ cntB (hdB (smB P Q j)) N + j := by
    intro j
    induction j with
    | zero => intro _; rw [parts_0 P Q hN]; omega
    | succ j ih =>
      intro hj
      have := ih (by omega)
      rcases parts_step (j := j) hN (fun i hi => h i (by omega)) with ⟨_, e⟩ | ⟨_, e⟩ <;> omega
  intro j hj
  have a := lower (N - 1 - j) j (by omega)
  have b := upper j hj
  refine ⟨by omega, fun hj2 => ?_⟩
  have c := lower (N - 1 - (j + 1)) (j + 1) (by omega)
  rcases parts_step (j := j) hN (fun i hi => h i (by omega)) with ⟨_, e⟩ | ⟨q, e⟩
  · omega
  · exact q
