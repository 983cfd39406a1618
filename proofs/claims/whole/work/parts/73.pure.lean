/-! ===== PURE 64: the outline as the class draws it ===== -/
theorem lpDn {σ ρ α : Type} {body : σ → Option (σ ⊕ ρ)} {F : Nat} {s0 : σ} (St : Nat → α → σ) (I : Nat → α → Prop) (out : α → ρ) (n : Nat) (x0 : α) (hs : s0 = St n x0) (h0 : I n x0)
    (hb : ∀ k x, k < n → I (k + 1) x → ∃ y, body (St (k + 1) x) = some (.inl (St k y)) ∧ I k y) (he : ∀ x, I 0 x → body (St 0 x) = some (.inr (out x))) (hF : n < F) : ∃ y, loop body F s0 = some (out y) ∧ I 0 y := by
  subst hs
  have key : ∀ m, m ≤ n → ∀ F, m < F → ∀ x, I m x → ∃ y, loop body F (St m x) = some (out y) ∧ I 0 y := by
    intro m
    induction m with
    | zero => exact fun _ F hF x hx => ⟨x, by rw [show F = (F - 1) + 1 by omega, loop_out (he x hx)], hx⟩
    | succ m ih =>
      intro hm F hF x hx
      obtain ⟨y, e, hy⟩ := hb m x (by omega) hx
      obtain ⟨z, e2, hz⟩ := ih (by omega) (F - 1) (by omega) y hy
      exact ⟨z, by rw [show F = (F - 1) + 1 by omega, loop_succ e, e2], hz⟩
  exact key n (Nat.le_refl _) F hF x0 h0
theorem good_lx {N a b : Nat} {X Y W : Nat → Nat} (g : GOOD N X Y W) (hab : a < b) (hb : b < N) : lx (cI X) (cI Y) a b := by
  have := g.2.2.2 a b hab hb
  unfold lx ps cI
  omega
theorem good_tot {N a b : Nat} {X Y W : Nat → Nat} (g : GOOD N X Y W) (ha : a < N) (hb : b < N) (h : a ≠ b) : lx (cI X) (cI Y) a b ∨ lx (cI X) (cI Y) b a := by
  rcases Nat.lt_or_gt_of_ne h with c | c
  · exact Or.inl (good_lx g c hb)
  · exact Or.inr (good_lx g c ha)
/-- on the way there -/
def LOW (X Y : Nat → Nat) (N S i : Nat) (t : Int32 × (Nat → Int32)) : Prop :=
  ((∀ q, q < i → S.testBit q = false) ∧ t.1 = 0) ∨ ∃ (n : Nat) (h : Nat → Nat), t.1 = nI n ∧ (∀ j, j < n → t.2 j = nI (h j) ∧ h j < N) ∧ CHAIN (cI X) (cI Y) (fun q => q < i ∧ S.testBit q = true) h n
theorem low_step {F N S i : Nat} {X Y W : Nat → Nat} {xs ys : Nat → Int32} {t : Int32 × (Nat → Int32)} (hF : 1000 ≤ F) (g : GOOD N X Y W) (hP : PT N X Y xs ys) (hi : i < N) (hS : S.testBit i = true) (h : LOW X Y N S i t) :
    ∃ r, mX3_turnTo F (nI i) (2 : Int32) t.1 t.2 xs ys = some r ∧ LOW X Y N S (i + 1) r := by
  have hN := g.1
  rcases h with ⟨h1, h2⟩ | ⟨n, h, e1, e2, e3⟩
  · refine ⟨(nI 1, upd t.2 0 (nI i)), ?_, Or.inr ⟨1, fun _ => i, rfl, fun j hj => ?_, chain_1 ⟨by omega, hS⟩ (fun q hq => ?_)⟩⟩
    · unfold mX3_turnTo
      have b : loop (fun s0 => mX3_turnTo_b0 F (nI i) (2 : Int32) t.2 xs ys s0) F t.1 = some (0 : Int32) := by
        rw [show F = (F - 1) + 1 by omega, h2, loop_out]
        unfold mX3_turnTo_b0
        rw [if_pos (by decide +kernel)]
      rw [b, Option.bind_some, if_neg (by decide +kernel), show (0 : Int32) = nI 0 from rfl, wrI_n (by omega) (by omega), Option.bind_some, Option.bind_some, nI_1]
    · rw [show j = 0 by omega]
      have u : upd t.2 0 (nI i) 0 = nI i := if_pos rfl
      exact ⟨u, hi⟩
    · rcases Nat.lt_succ_iff_lt_or_eq.mp hq.1 with c | c
      · rw [h1 q c] at hq
        exact absurd hq.2 Bool.false_ne_true
      · exact c
  · have nn : n ≤ N := chain_le e3 (fun q hq => by have := hq.1; omega)
    obtain ⟨k, k1, k2, k3⟩ := turnTo3 (F := F) (s := 0) (p := i) (row := t.2) hF hN hP g.2.1 (fun a b c => rfl) e3 (fun j hj => by rw [Nat.zero_add]; exact e2 j hj) (by omega) hi (fun q hq => good_lx g hq.1 hi) (fun a b ha hb hne => good_tot g (by omega) (by omega) hne)
    rw [Nat.zero_add, Nat.zero_add, Nat.zero_add, Nat.zero_add] at k2
    rw [e1]
    refine ⟨_, k2, Or.inr ⟨k + 2, _, rfl, fun j hj => ?_, chain_congr k3 (fun q => ?_) (fun _ _ => rfl)⟩⟩
    · show upd t.2 (k + 1) (nI i) j = nI (if j ≤ k then h j else i) ∧ (if j ≤ k then h j else i) < N
      by_cases c : j ≤ k
      · have u : upd t.2 (k + 1) (nI i) j = t.2 j := if_neg (by omega)
        rw [u, if_pos c]
        exact e2 j (by omega)
      · have u : upd t.2 (k + 1) (nI i) j = nI i := if_pos (by omega)
        rw [u, if_neg c]
        exact ⟨rfl, hi⟩
    · constructor
      · intro hq
        rcases hq with hq | hq
        · exact ⟨by omega, hq.2⟩
        · rw [hq]
          exact ⟨by omega, hS⟩
      · intro hq
        rcases Nat.lt_succ_iff_lt_or_eq.mp hq.1 with c | c
        · exact Or.inl ⟨c, hq.2⟩
        · exact Or.inr c
theorem low_all {F N S : Nat} {X Y W : Nat → Nat} {xs ys : Nat → Int32} (hF : 1000 ≤ F) (g : GOOD N X Y W) (hP : PT N X Y xs ys) (hS : S < 2 ^ 31) (row : Nat → Int32) :
    ∃ t, loop (fun s7 : Int32 × Int32 × (Nat → Int32) => mX3_draw_b7 F (nI S) (nI N) xs ys s7.1 s7.2.1 s7.2.2) F ((0 : Int32), (0 : Int32), row) = some t ∧ LOW X Y N S N t := by
  have hN := g.1
  obtain ⟨t, e, h⟩ := lpI (body := fun s7 : Int32 × Int32 × (Nat → Int32) => mX3_draw_b7 F (nI S) (nI N) xs ys s7.1 s7.2.1 s7.2.2) (F := F) (fun k (t : Int32 × (Nat → Int32)) => (nI k, t.1, t.2)) (fun k t => LOW X Y N S k t) 0 N (fun t => t) ((0 : Int32), row) (by omega) (s0 := ((0 : Int32), (0 : Int32), row)) rfl
    (Or.inl ⟨fun q hq => absurd hq (Nat.not_lt_zero q), rfl⟩) (fun k t _ hk hI => by
      by_cases c : S.testBit k = true
      · obtain ⟨r, er, hr⟩ := low_step (F := F) hF g hP hk c hI
        refine ⟨r, ?_, hr⟩
        unfold mX3_draw_b7
        simp only []
        rw [if_neg (show ¬ nI N ≤ nI k by rw [nI_leE (by omega) (by omega)]; omega), has6b F hS (by omega), Option.bind_some, c, if_neg (by rw [k0T]; exact id), er, Option.bind_some, nI_1]
      · have c' := Bool.not_eq_true _ |>.mp c
        refine ⟨t, ?_, ?_⟩
        · unfold mX3_draw_b7
          simp only []
          rw [if_neg (show ¬ nI N ≤ nI k by rw [nI_leE (by omega) (by omega)]; omega), has6b F hS (by omega), Option.bind_some, c', if_pos (by rw [k0F]; trivial), nI_1]
        · rcases hI with ⟨h1, h2⟩ | ⟨n, h, e1, e2, e3⟩
          · refine Or.inl ⟨fun q hq => ?_, h2⟩
            rcases Nat.lt_succ_iff_lt_or_eq.mp hq with d | d
            · exact h1 q d
            · rw [d]; exact c'
          · refine Or.inr ⟨n, h, e1, e2, chain_congr e3 (fun q => ⟨fun hq => ⟨by omega, hq.2⟩, fun hq => ⟨?_, hq.2⟩⟩) (fun _ _ => rfl)⟩
            rcases Nat.lt_succ_iff_lt_or_eq.mp hq.1 with d | d
            · exact d
            · rw [d, c'] at hq
              exact absurd hq.2 Bool.false_ne_true) (fun t _ => by
      unfold mX3_draw_b7
      simp only []
      rw [if_pos (show nI N ≤ nI N by rw [nI_leE (by omega) (by omega)]; omega)]) (by omega)
  exact ⟨t, e, h⟩
/-- on the way back: s the place of the far end -/
def UPP (X Y : Nat → Nat) (N S s top : Nat) (h0 : Nat → Nat) (i : Nat) (t : Int32 × (Nat → Int32)) : Prop :=
  (∀ j, j < s + 1 → t.2 j = nI (h0 j)) ∧ ∃ (n : Nat) (h : Nat → Nat), t.1 = nI (s + n) ∧ (∀ j, j < n → t.2 (s + j) = nI (h j) ∧ h j < N) ∧ h 0 = top ∧
    CHAIN (fun i => - cI X i) (fun i => - cI Y i) (fun q => q < N ∧ S.testBit q = true ∧ (i ≤ q ∨ q = top)) h n
theorem upp_step {F N S s top i : Nat} {h0 : Nat → Nat} {X Y W : Nat → Nat} {xs ys : Nat → Int32} {t : Int32 × (Nat → Int32)} (hF : 1000 ≤ F) (g : GOOD N X Y W) (hP : PT N X Y xs ys) (hs : s < 24) (hi : i < N) (hS : S.testBit i = true) (hit : i ≠ top)
    (htop : ∀ q, q < N → S.testBit q = true → q = top ∨ lx (cI X) (cI Y) q top) (h : UPP X Y N S s top h0 (i + 1) t) :
    ∃ r, mX3_turnTo F (nI i) (nI (s + 2)) t.1 t.2 xs ys = some r ∧ UPP X Y N S s top h0 i r := by
  have hN := g.1
  obtain ⟨h1, n, h, e1, e2, e3, e4⟩ := h
  have nn : n ≤ N := chain_le e4 (fun q hq => hq.1)
  obtain ⟨k, k1, k2, k3⟩ := turnTo3 (F := F) (s := s) (p := i) (row := t.2) hF hN hP g.2.1 (fun a b c => trn_neg _ _ a b c) e4 e2 (by omega) hi (fun q hq => by
    rw [lx_neg]
    rcases hq.2.2 with c | c
    · exact good_lx g (by omega) hq.1
    · rw [c]
      rcases htop i hi hS with d | d
      · exact absurd d hit
      · exact d) (fun a b ha hb hne => by
    rw [lx_neg, lx_neg]
    exact good_tot g hb.1 ha.1 (Ne.symm hne))
  rw [e1]
  refine ⟨_, k2, fun j hj => ?_, k + 2, _, rfl, fun j hj => ?_, ?_, chain_congr k3 (fun q => ?_) (fun _ _ => rfl)⟩
  · have u : upd t.2 (s + (k + 1)) (nI i) j = t.2 j := if_neg (by omega)
    show upd t.2 (s + (k + 1)) (nI i) j = _
    rw [u]
    exact h1 j hj
  · show upd t.2 (s + (k + 1)) (nI i) (s + j) = nI (if j ≤ k then h j else i) ∧ (if j ≤ k then h j else i) < N
    by_cases c : j ≤ k
    · have u : upd t.2 (s + (k + 1)) (nI i) (s + j) = t.2 (s + j) := if_neg (by omega)
      rw [u, if_pos c]
      exact e2 j (by omega)
    · have u : upd t.2 (s + (k + 1)) (nI i) (s + j) = nI i := if_pos (by omega)
      rw [u, if_neg c]
      exact ⟨rfl, hi⟩
  · show (if 0 ≤ k then h 0 else i) = top
    rw [if_pos (by omega)]
    exact e3
  · constructor
    · intro hq
      rcases hq with hq | hq
      · exact ⟨hq.1, hq.2.1, by rcases hq.2.2 with c | c; exact Or.inl (by omega); exact Or.inr c⟩
      · rw [hq]
        exact ⟨hi, hS, Or.inl (Nat.le_refl _)⟩
    · intro hq
      by_cases c : q = i
      · exact Or.inr c
      · exact Or.inl ⟨hq.1, hq.2.1, by rcases hq.2.2 with d | d; exact Or.inl (by omega); exact Or.inr d⟩
theorem upp_all {F N S s top : Nat} {h0 : Nat → Nat} {X Y W : Nat → Nat} {xs ys : Nat → Int32} {t : Int32 × (Nat → Int32)} (hF : 1000 ≤ F) (g : GOOD N X Y W) (hP : PT N X Y xs ys) (h31 : S < 2 ^ 31) (hs1 : 1 ≤ s) (hs : s < 24) (h1 : 1 ≤ N) (htN : top < N) (hts : h0 s = top) (hS : S.testBit top = true)
    (htop : ∀ q, q < N → S.testBit q = true → q = top ∨ lx (cI X) (cI Y) q top) (ht1 : t.1 = nI (s + 1)) (ht2 : ∀ j, j < s + 1 → t.2 j = nI (h0 j)) :
    ∃ r, loop (fun s49 : Int32 × Int32 × (Nat → Int32) => mX3_draw_b49 F (nI S) xs ys (nI (s + 1)) s49.1 s49.2.1 s49.2.2) F (nI N - (1 : Int32), t.1, t.2) = some (r.1 - (1 : Int32), r.2) ∧ UPP X Y N S s top h0 0 r := by
  have hN := g.1
  refine lpDn (body := fun s49 : Int32 × Int32 × (Nat → Int32) => mX3_draw_b49 F (nI S) xs ys (nI (s + 1)) s49.1 s49.2.1 s49.2.2) (F := F) (fun k (t : Int32 × (Nat → Int32)) => (dn k, t.1, t.2)) (fun k t => UPP X Y N S s top h0 k t) (fun t => (t.1 - (1 : Int32), t.2)) N t (s0 := (nI N - (1 : Int32), t.1, t.2)) ?_ ?_ (fun k t hk hI => ?_) (fun t hI => ?_) (by omega)
  · obtain ⟨m, rfl⟩ : ∃ m, N = m + 1 := ⟨N - 1, by omega⟩
    rw [nI_pred]
    rfl
  · refine ⟨ht2, 1, fun _ => top, ht1, fun j hj => ?_, rfl, chain_1 ⟨htN, hS, Or.inr rfl⟩ (fun q hq => ?_)⟩
    · rw [show j = 0 by omega, Nat.add_zero, ht2 s (by omega), hts]
      exact ⟨rfl, htN⟩
    · rcases hq.2.2 with c | c
      · have := hq.1
        omega
      · exact c
  · have n1 : ¬ dn (k + 1) < 0 := by rw [dn_lt0 (by omega)]; omega
    have n2 : ¬ nI (s + 1) ≤ (1 : Int32) := by rw [c1, nI_leE (by omega) (by omega)]; omega
    have ed : dn (k + 1) = nI k := rfl
    show ∃ y, mX3_draw_b49 F (nI S) xs ys (nI (s + 1)) (dn (k + 1)) t.1 t.2 = some (.inl (dn k, y.1, y.2)) ∧ UPP X Y N S s top h0 k y
    unfold mX3_draw_b49
    rw [if_neg n1, if_neg n2, ed, has6b F h31 (by omega), Option.bind_some, dn_pred]
    by_cases c : S.testBit k = true
    · rw [c, if_neg (by rw [k0T]; exact id), nI_s1 (by omega), Nat.add_sub_cancel, rdI_n (by omega) (by omega), Option.bind_some, hI.1 s (by omega), hts]
      by_cases c2 : k = top
      · rw [if_pos (by rw [c2])]
        refine ⟨t, rfl, hI.1, ?_⟩
        obtain ⟨_, n, h, e1, e2, e3, e4⟩ := hI
        refine ⟨n, h, e1, e2, e3, chain_congr e4 (fun q => ?_) (fun _ _ => rfl)⟩
        constructor
        · exact fun hq => ⟨hq.1, hq.2.1, by rcases hq.2.2 with d | d; exact Or.inl (by omega); exact Or.inr d⟩
        · exact fun hq => ⟨hq.1, hq.2.1, by
            by_cases d : q = top
            · exact Or.inr d
            · rcases hq.2.2 with f | f
              · exact Or.inl (by omega)
              · exact Or.inr f⟩
      · obtain ⟨r, er, hr⟩ := upp_step (F := F) hF g hP hs hk c c2 htop hI
        rw [if_neg (by rw [nI_eqE (by omega) (by omega)]; exact c2), nI_1, show s + 1 + 1 = s + 2 by omega, er, Option.bind_some]
        exact ⟨r, rfl, hr⟩
    · have c' := Bool.not_eq_true _ |>.mp c
      rw [c', if_pos (by rw [k0F]; trivial)]
      refine ⟨t, rfl, hI.1, ?_⟩
      obtain ⟨_, n, h, e1, e2, e3, e4⟩ := hI
      refine ⟨n, h, e1, e2, e3, chain_congr e4 (fun q => ?_) (fun _ _ => rfl)⟩
      constructor
      · exact fun hq => ⟨hq.1, hq.2.1, by rcases hq.2.2 with d | d; exact Or.inl (by omega); exact Or.inr d⟩
      · exact fun hq => ⟨hq.1, hq.2.1, by
          have : q ≠ k := fun d => by rw [d, c'] at hq; exact absurd hq.2.1 Bool.false_ne_true
          rcases hq.2.2 with f | f
          · exact Or.inl (by omega)
          · exact Or.inr f⟩
  · show mX3_draw_b49 F (nI S) xs ys (nI (s + 1)) (dn 0) t.1 t.2 = _
    have n2 : ¬ nI (s + 1) ≤ (1 : Int32) := by rw [c1, nI_leE (by omega) (by omega)]; omega
    unfold mX3_draw_b49
    rw [if_pos (show dn 0 < 0 by rw [dn_lt0 (by omega)]), if_neg n2, Option.bind_some]
