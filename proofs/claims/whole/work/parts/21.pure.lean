/-! ===== PURE 12: the tree is one ===== -/
theorem insB_mem {f : Nat → Nat} {i v n j : Nat} (hj : j < n) : ∃ k, k < n + 1 ∧ insB f i v k = f j := by
  by_cases h : j < i
  · exact ⟨j, by omega, by unfold insB; rw [if_pos h]⟩
  · exact ⟨j + 1, by omega, by unfold insB; rw [if_neg (by omega), if_neg (by omega)]; rfl⟩
theorem KS_mem {X Y : Nat → Nat} {N t : Nat} : ∀ s, t < s → ∃ j, j < s ∧ KS X Y N s j = CK X Y N t
  | 0, h => by omega
  | s + 1, h => by
    rw [KS_succ]
    by_cases e : t = s
    · subst e
      have := (ik_spec (K := KS X Y N t) (k := CK X Y N t) (n := t)).1
      exact ⟨_, Nat.lt_succ_of_le this, by unfold insB; rw [if_neg (by omega), if_pos rfl]⟩
    · obtain ⟨j, h1, h2⟩ := KS_mem (X := X) (Y := Y) (N := N) (t := t) s (by omega)
      obtain ⟨k, k1, k2⟩ := insB_mem (f := KS X Y N s) (i := ikB (KS X Y N s) (CK X Y N s) s) (v := CK X Y N s) h1
      exact ⟨k, k1, by rw [k2, h2]⟩
theorem KS_sorted {X Y : Nat → Nat} {N : Nat} : ∀ t i j, i ≤ j → j < t → KS X Y N t i ≤ KS X Y N t j
  | 0, i, j, _, h => by omega
  | t + 1, i, j, h1, h2 => by
    rw [KS_succ]
    have ih := KS_sorted (X := X) (Y := Y) (N := N) t
    have ⟨s1, s2, s3⟩ := ik_spec (K := KS X Y N t) (k := CK X Y N t) (n := t)
    generalize ikB (KS X Y N t) (CK X Y N t) t = i0 at s1 s2 s3 ⊢
    unfold insB
    by_cases a : i < i0
    · rw [if_pos a]
      by_cases b : j < i0
      · rw [if_pos b]; exact ih i j h1 (by omega)
      · rw [if_neg b]
        have q := ih i (i0 - 1) (by omega) (by omega)
        have q2 := s3 (by omega)
        by_cases c : j = i0
        · rw [if_pos c]; omega
        · rw [if_neg c]; exact ih i (j - 1) (by omega) (by omega)
    · rw [if_neg a, if_neg (show ¬ j < i0 by omega)]
      by_cases c : i = i0
      · rw [if_pos c]
        by_cases d : j = i0
        · rw [if_pos d]; exact Nat.le_refl _
        · rw [if_neg d]
          have := s2 (j - 1) (by omega) (by omega)
          omega
      · rw [if_neg c, if_neg (show ¬ j = i0 by omega)]
        exact ih (i - 1) (j - 1) (by omega) (by omega)
theorem conn {X Y : Nat → Nat} {N : Nat} (hN : N ≤ 24) (h1 : 1 ≤ N) : ∀ t, t ≤ N - 1 → ∀ q, q < N → (GG X Y N t).testBit q = true → (smB (fP (KK X Y N)) (fQ (KK X Y N)) (N - 1) 0).testBit q = true
  | 0, _, q, hq, h => by
    have : q = 0 := by
      have h2 : Nat.testBit 1 q = true := h
      rw [show (1 : Nat) = 2 ^ 0 from rfl, Nat.testBit_two_pow] at h2
      simp at h2; omega
    rw [this]
    exact (sm_part (P := fP (KK X Y N)) (Q := fQ (KK X Y N)) (N := N) (N - 1) (fun i hi => KK_lt hN hi) 0 (by omega)).1
  | t + 1, ht, q, hq, h => by
    have ih := conn (X := X) (Y := Y) hN h1 t (by omega)
    rw [GG_succ, or_bit] at h
    by_cases e : (GG X Y N t).testBit q = true
    · exact ih q hq e
    · have hv : VX X Y N t = q := by
        rw [Bool.not_eq_true _ |>.mp e, Nat.testBit_two_pow] at h
        simpa using h
      have ⟨⟨p, p1, p2, p3, p4, p5⟩, p6⟩ := CK_spec (X := X) (Y := Y) hN (show t + 1 < N by omega)
      obtain ⟨j, j1, j2⟩ := KS_mem (X := X) (Y := Y) (N := N) (N - 1) (show t < N - 1 by omega)
      have kj : KK X Y N j = kf X Y p q := by rw [← hv, ← p5]; exact j2
      have ep : fP (KK X Y N) j = min p q := by unfold fP; rw [kj, kf_min (by omega) (by omega)]
      have eq : fQ (KK X Y N) j = max p q := by unfold fQ; rw [kj, kf_max (by omega) (by omega)]
      have hpart := sm_part (P := fP (KK X Y N)) (Q := fQ (KK X Y N)) (N := N) j (fun i hi => KK_lt hN (by omega))
      have ⟨l1, l2⟩ := KK_lt (X := X) (Y := Y) hN j1
      have a := pm_a hpart l1
      have b := pm_b hpart l2
      have hp2 : (pmB (fP (KK X Y N)) (fQ (KK X Y N)) j).testBit p = true := by
        rcases Nat.le_total p q with g | g
        · rw [ep, Nat.min_eq_left g] at a; exact a
        · rw [eq, Nat.max_eq_left g] at b; exact b
      have hq2 : (pmB (fP (KK X Y N)) (fQ (KK X Y N)) j).testBit q = true := by
        rcases Nat.le_total p q with g | g
        · rw [eq, Nat.max_eq_right g] at b; exact b
        · rw [ep, Nat.min_eq_right g] at a; exact a
      have hall := sm_part (P := fP (KK X Y N)) (Q := fQ (KK X Y N)) (N := N) (N - 1) (fun i hi => KK_lt hN hi)
      have c := sm_pm (N := N) p1 j1 (fun i hi => KK_lt hN hi) hp2 hq2
      have d := ih p p1 p3
      rw [← (hall 0 (by omega)).2.2 p p1 d]
      exact c
theorem cnt_full {p : Nat → Bool} : ∀ {n}, cntB p n = n → ∀ k, k < n → p k = true
  | 0, _, k, hk => by omega
  | n + 1, h, k, hk => by
    have := cntB_le p n
    simp only [cntB] at h
    have e : p n = true := by
      cases q : p n with
      | true => rfl
      | false => rw [q] at h; simp at h; omega
    rcases Nat.lt_succ_iff_lt_or_eq.mp hk with g | g
    · exact cnt_full (by rw [e] at h; simp at h; exact h) k g
    · rw [g]; exact e
/-- at the end all are in one part -/
theorem tree_all {X Y : Nat → Nat} {N : Nat} (hN : N ≤ 24) {p q : Nat} (hp : p < N) (hq : q < N) : (smB (fP (KK X Y N)) (fQ (KK X Y N)) (N - 1) p).testBit q = true := by
  have ⟨g1, g2, g3⟩ := GG_spec (X := X) (Y := Y) hN (N - 1) (by omega)
  have full := cnt_full (p := (GG X Y N (N - 1)).testBit) (n := N) (by omega)
  have hall := sm_part (P := fP (KK X Y N)) (Q := fQ (KK X Y N)) (N := N) (N - 1) (fun i hi => KK_lt hN hi)
  have a := conn hN (by omega) (N - 1) (by omega) p hp (full p hp)
  have b := conn hN (by omega) (N - 1) (by omega) q hq (full q hq)
  rw [(hall 0 (by omega)).2.2 p hp a]
  exact b
theorem tree_end {X Y : Nat → Nat} {N : Nat} (hN : N ≤ 24) (h1 : 1 ≤ N) : cntB (hdB (smB (fP (KK X Y N)) (fQ (KK X Y N)) (N - 1))) N = 1 := by
  have hall := sm_part (P := fP (KK X Y N)) (Q := fQ (KK X Y N)) (N := N) (N - 1) (fun i hi => KK_lt hN hi)
  have e1 : cntB (Nat.testBit 1) N = 1 := by
    obtain ⟨n, rfl⟩ : ∃ n, N = n + 1 := ⟨N - 1, by omega⟩
    exact cnt_bit1 n
  refine (cntB_congr (fun k hk => ?_)).trans e1
  have l := lo_part hN hall hk
  have e : lo (smB (fP (KK X Y N)) (fQ (KK X Y N)) (N - 1) k) = 0 := by
    refine Nat.eq_zero_of_not_pos (fun h => ?_)
    have := l.2.2.2.1 0 h
    rw [tree_all hN hk (by omega)] at this
    cases this
  unfold hdB
  rw [e, show (1 : Nat) = 2 ^ 0 from rfl, Nat.testBit_two_pow]
theorem tree_parts {X Y : Nat → Nat} {N : Nat} (hN : N ≤ 24) {j : Nat} (hj : j ≤ N - 1) : cntB (hdB (smB (fP (KK X Y N)) (fQ (KK X Y N)) j)) N = N - j ∧ (j < N - 1 → smB (fP (KK X Y N)) (fQ (KK X Y N)) j (fP (KK X Y N) j) ≠ smB (fP (KK X Y N)) (fQ (KK X Y N)) j (fQ (KK X Y N) j)) := by
  by_cases h1 : 1 ≤ N
  · exact parts_all hN h1 (fun i hi => KK_lt hN hi) (tree_end hN h1) j hj
  · have : N = 0 := by omega
    subst this
    exact ⟨by simp [cntB], fun h => by omega⟩
theorem KK_inj {X Y : Nat → Nat} {N i j : Nat} (hN : N ≤ 24) (hij : i < j) (hj : j < N - 1) : KK X Y N i ≠ KK X Y N j := by
  intro e
  have h := (tree_parts (X := X) (Y := Y) hN (show j ≤ N - 1 by omega)).2 hj
  have ep : fP (KK X Y N) i = fP (KK X Y N) j := by unfold fP; rw [e]
  have eq : fQ (KK X Y N) i = fQ (KK X Y N) j := by unfold fQ; rw [e]
  have hpart := sm_part (P := fP (KK X Y N)) (Q := fQ (KK X Y N)) (N := N) i (fun i hi => KK_lt hN (by omega))
  have hpj := sm_part (P := fP (KK X Y N)) (Q := fQ (KK X Y N)) (N := N) j (fun i hi => KK_lt hN (by omega))
  have ⟨l1, l2⟩ := KK_lt (X := X) (Y := Y) hN (show i < N - 1 by omega)
  have c := sm_pm (N := N) (P := fP (KK X Y N)) (Q := fQ (KK X Y N)) l1 hij (fun i hi => KK_lt hN (by omega)) (pm_a hpart l1) (pm_b hpart l2)
  rw [ep, eq] at c
  rw [ep] at l1
  rw [eq] at l2
  exact h (((hpj _ l1).2.2 _ l2 c).symm)
theorem KK_strict {X Y : Nat → Nat} {N i j : Nat} (hN : N ≤ 24) (hij : i < j) (hj : j < N - 1) : KK X Y N i < KK X Y N j := by
  have a := KS_sorted (X := X) (Y := Y) (N := N) (N - 1) i j (by omega) hj
  have b := KK_inj (X := X) (Y := Y) hN hij hj
  have a2 : KK X Y N i ≤ KK X Y N j := a
  omega
