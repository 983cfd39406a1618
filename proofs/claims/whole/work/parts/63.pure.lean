/-! ===== PURE 54: the class measures the ways ===== -/
theorem tn_n {k : Nat} (h : k < 2 ^ 31) : (nI k).toInt.toNat = k := by
  have := nI_toInt h
  omega
theorem ck_n {k : Nat} (h : k < 24) : ckR (nI k) = some () := by
  unfold ckR
  rw [nI_toInt (by omega)]
  exact if_pos ⟨by omega, by omega⟩
theorem up2 {f : Nat → Nat → Int32} {p q x y : Nat} {v : Int32} (hne : p ≠ q) : va_up (va_up f p (upd (f p) q v)) q (upd (va_up f p (upd (f p) q v) q) p v) x y = if (x = p ∧ y = q) ∨ (x = q ∧ y = p) then v else f x y := by
  have e0 : va_up f p (upd (f p) q v) q = f q := if_neg (fun g => hne g.symm)
  rw [e0]
  by_cases h1 : x = q
  · rw [h1]
    have e : va_up (va_up f p (upd (f p) q v)) q (upd (f q) p v) q = upd (f q) p v := if_pos rfl
    rw [e]
    show (if y = p then v else f q y) = _
    by_cases h2 : y = p
    · rw [if_pos h2, if_pos (Or.inr ⟨rfl, h2⟩)]
    · rw [if_neg h2, if_neg (fun g => by rcases g with g | g <;> omega)]
  · have e : va_up (va_up f p (upd (f p) q v)) q (upd (f q) p v) x = va_up f p (upd (f p) q v) x := if_neg h1
    rw [e]
    by_cases h2 : x = p
    · rw [h2]
      have e : va_up f p (upd (f p) q v) p = upd (f p) q v := if_pos rfl
      rw [e]
      show (if y = q then v else f p y) = _
      by_cases h3 : y = q
      · rw [if_pos h3, if_pos (Or.inl ⟨rfl, h3⟩)]
      · rw [if_neg h3, if_neg (fun g => by rcases g with g | g <;> omega)]
    · have e : va_up f p (upd (f p) q v) x = f x := if_neg h2
      rw [e, if_neg (fun g => by rcases g with g | g <;> omega)]
def FARS (P Q R : Nat → Nat) (N k : Nat) (far : Nat → Nat → Int32) : Prop := ∀ x y, enB P Q N k x y → far x y = nI (fdB P Q R k x y)
/-- the ways while join k is linked: those of points ahead of p, and of p to those ahead of q, are done -/
def LNK (P Q R : Nat → Nat) (N k p q : Nat) (far : Nat → Nat → Int32) : Prop :=
  FARS P Q R N k far ∧ ∀ x y, enB P Q N k x (P k) → enB P Q N k (Q k) y → (x < p ∨ x = p ∧ y < q) → far x y = nI (fdB P Q R (k + 1) x y) ∧ far y x = nI (fdB P Q R (k + 1) y x)
theorem link83_b {F N A B a b p q : Nat} {x3 : Int32} {far : Nat → Nat → Int32} (hN : N ≤ 24) (hA : A < 2 ^ 31) (hB : B < 2 ^ 31) (ha : a < N) (hb : b < N) (hp : p < N) (hq : q < N) (mA : A.testBit p = true) (mB : B.testBit q = true) :
    mX7_link_b83 F x3 (nI N) (nI A) (nI B) (nI a) (nI b) (nI p) (nI q) far = some (.inl (nI (q + 1), va_up (va_up far p (upd (far p) q ((far p a + x3) + far b q))) q (upd (va_up far p (upd (far p) q ((far p a + x3) + far b q)) q) p ((far p a + x3) + far b q)))) := by
  have e : va_up far p (upd (far p) q ((far p a + x3) + far b q)) p q = (far p a + x3) + far b q := by
    have e1 : va_up far p (upd (far p) q ((far p a + x3) + far b q)) p = upd (far p) q ((far p a + x3) + far b q) := if_pos rfl
    rw [e1]
    exact if_pos rfl
  unfold mX7_link_b83
  rw [if_neg (show ¬ nI N ≤ nI q by rw [nI_leE (by omega) (by omega)]; omega), has6b F hA (by omega), Option.bind_some, mA, if_neg (by rw [k0T]; exact id), has6b F hB (by omega), Option.bind_some, mB, if_neg (by rw [k0T]; exact id),
    ck_n (k := p) (by omega), Option.bind_some, Option.bind_some, tn_n (k := p) (by omega), rdI_n (by omega) (by omega), Option.bind_some, ck_n (k := b) (by omega), Option.bind_some, tn_n (k := b) (by omega), rdI_n (by omega) (by omega), Option.bind_some,
    wrI_n (by omega) (by omega), Option.bind_some, Option.bind_some, ck_n (k := q) (by omega), Option.bind_some, Option.bind_some, rdI_n (by omega) (by omega), Option.bind_some, tn_n (k := q) (by omega), wrI_n (by omega) (by omega), Option.bind_some, Option.bind_some, e, nI_1]
theorem link_p {F N k p : Nat} {P Q R : Nat → Nat} {far : Nat → Nat → Int32} (hF : 1000 ≤ F) (hN : N ≤ 24) (hK : ∀ i, i < k + 1 → P i < N ∧ Q i < N) (hne : smB P Q k (P k) ≠ smB P Q k (Q k)) (hp : p < N) (h : LNK P Q R N k p 0 far) :
    ∃ far', loop (fun s83 : Int32 × (Nat → Nat → Int32) => mX7_link_b83 F (nI (R k)) (nI N) (nI (smB P Q k (P k))) (nI (smB P Q k (Q k))) (nI (P k)) (nI (Q k)) (nI p) s83.1 s83.2) F ((0 : Int32), far) = some far' ∧ LNK P Q R N k (p + 1) 0 far' := by
  have hS := sm_part (P := P) (Q := Q) (N := N) k (fun i hi => hK i (by omega))
  have ⟨ha, hb⟩ := hK k (by omega)
  have mA : smB P Q k (P k) < 2 ^ 31 := Nat.lt_of_lt_of_le (hS _ ha).2.1 (Nat.pow_le_pow_right (by omega) (by omega))
  have mB : smB P Q k (Q k) < 2 ^ 31 := Nat.lt_of_lt_of_le (hS _ hb).2.1 (Nat.pow_le_pow_right (by omega) (by omega))
  obtain ⟨_, _, nE, sp, sm, cr, _⟩ := fd_new (R := R) hK hne
  by_cases c : (smB P Q k (P k)).testBit p = true
  · obtain ⟨f, e, g⟩ := lpI (body := fun s83 : Int32 × (Nat → Nat → Int32) => mX7_link_b83 F (nI (R k)) (nI N) (nI (smB P Q k (P k))) (nI (smB P Q k (Q k))) (nI (P k)) (nI (Q k)) (nI p) s83.1 s83.2) (F := F)
      (fun q (f : Nat → Nat → Int32) => (nI q, f)) (fun q f => LNK P Q R N k p q f) 0 N (fun f => f) far (by omega) (s0 := ((0 : Int32), far)) rfl h (fun q f _ hq hI => by
        by_cases c2 : (smB P Q k (Q k)).testBit q = true
        · refine ⟨_, link83_b hN mA mB ha hb hp hq c c2, ?_⟩
          have epa : enB P Q N k p (P k) := ⟨hp, ha, part_symm hS ha hp c⟩
          have ebq : enB P Q N k (Q k) q := ⟨hb, hq, c2⟩
          have hpq : p ≠ q := fun g => nE ⟨ha, hb, by
            rw [en_iff hS ha hb, (en_iff hS hb hq).mp c2 |>.symm, ← g]
            exact (en_iff hS ha hp).mp c⟩
          have v : (f p (P k) + nI (R k)) + f (Q k) q = nI (fdB P Q R k p (P k) + R k + fdB P Q R k (Q k) q) := by
            rw [hI.1 _ _ epa, hI.1 _ _ ebq, nI_add, nI_add]
          have d := (cr p q epa ebq).2.2
          refine ⟨fun x y hxy => ?_, fun x y hx hy o => ?_⟩
          · have k1 : ¬ ((x = p ∧ y = q) ∨ (x = q ∧ y = p)) := by
              intro o
              have same := (en_iff hS hxy.1 hxy.2.1).mp hxy.2.2
              have sp1 := (en_iff hS ha hp).mp c
              have sq1 := (en_iff hS hb hq).mp c2
              rcases o with ⟨o1, o2⟩ | ⟨o1, o2⟩ <;> rw [o1, o2, sp1, sq1] at same
              · exact hne same.symm
              · exact hne same
            rw [up2 hpq, if_neg k1]
            exact hI.1 x y hxy
          · have dxy := (cr x y hx hy).2.2
            have sx := (en_iff hS hx.1 ha).mp hx.2.2
            have sy := (en_iff hS hb hy.2.1).mp hy.2.2
            have sp1 := (en_iff hS ha hp).mp c
            have sq1 := (en_iff hS hb hq).mp c2
            have n1 : x ≠ q := fun g => by rw [g] at sx; exact hne (sx.trans sq1)
            have n2 : y ≠ p := fun g => by rw [g] at sy; exact hne (sp1.symm.trans sy)
            rw [up2 hpq, up2 hpq]
            by_cases c3 : x = p ∧ y = q
            · rw [if_pos (Or.inl c3), if_pos (Or.inr ⟨c3.2, c3.1⟩), v, c3.1, c3.2, d.1, d.2]
              exact ⟨rfl, rfl⟩
            · rw [if_neg (fun g => by rcases g with g | g <;> omega), if_neg (fun g => by rcases g with g | g <;> omega)]
              exact hI.2 x y hx hy (by omega)
        · refine ⟨f, ?_, hI.1, fun x y hx hy o => hI.2 x y hx hy ?_⟩
          · show mX7_link_b83 F (nI (R k)) (nI N) (nI (smB P Q k (P k))) (nI (smB P Q k (Q k))) (nI (P k)) (nI (Q k)) (nI p) (nI q) f = _
            unfold mX7_link_b83
            rw [if_neg (show ¬ nI N ≤ nI q by rw [nI_leE (by omega) (by omega)]; omega), has6b F mA (by omega), Option.bind_some, c, if_neg (by rw [k0T]; exact id), has6b F mB (by omega), Option.bind_some, Bool.not_eq_true _ |>.mp c2, if_pos (by rw [k0F]; trivial), nI_1]
          · have : y ≠ q := fun g => c2 (by rw [← g]; exact hy.2.2)
            omega) (fun f _ => by
        show mX7_link_b83 F (nI (R k)) (nI N) (nI (smB P Q k (P k))) (nI (smB P Q k (Q k))) (nI (P k)) (nI (Q k)) (nI p) (nI N) f = _
        unfold mX7_link_b83
        rw [if_pos (show nI N ≤ nI N by rw [nI_leE (by omega) (by omega)]; omega)]) (by omega)
    exact ⟨f, e, g.1, fun x y hx hy o => g.2 x y hx hy (by have := hy.2.1; omega)⟩
  · refine ⟨far, ?_, h.1, fun x y hx hy o => h.2 x y hx hy ?_⟩
    · rw [show F = (F - 1) + 1 by omega, loop_out]
      show mX7_link_b83 _ (nI (R k)) (nI N) (nI (smB P Q k (P k))) (nI (smB P Q k (Q k))) (nI (P k)) (nI (Q k)) (nI p) (nI 0) far = _
      unfold mX7_link_b83
      rw [if_neg (show ¬ nI N ≤ nI 0 by rw [nI_leE (by omega) (by omega)]; omega), has6b _ mA (by omega), Option.bind_some, Bool.not_eq_true _ |>.mp c, if_pos (by rw [k0F]; trivial)]
    · have : x ≠ p := fun g => c (by rw [← g]; exact part_symm hS hx.1 ha hx.2.2)
      omega
theorem link7 {F N k : Nat} {X Y R : Nat → Nat} {aparts fs firsts ja os parts pa roots seconds : Nat → Int32} {pairs : Nat → Int64} {far : Nat → Nat → Int32} (hF : 1000 ≤ F) (hN : N ≤ 24) (h : TR2 X Y N aparts fs firsts ja os parts pa roots seconds pairs) (hk : k < N - 1)
    (hf : FARS (fP (KK X Y N)) (fQ (KK X Y N)) R N k far) :
    ∃ far', mX7_link F (nI k) (nI (R k)) (nI N) far fs firsts os parts seconds = some far' ∧ FARS (fP (KK X Y N)) (fQ (KK X Y N)) R N (k + 1) far' := by
  have hK : ∀ i, i < k + 1 → fP (KK X Y N) i < N ∧ fQ (KK X Y N) i < N := fun i hi => KK_lt hN (by omega)
  have hne := (tree_parts (X := X) (Y := Y) hN (show k ≤ N - 1 by omega)).2 hk
  have ⟨ha, hb⟩ := hK k (by omega)
  have j := h.1 k hk
  have up : ∀ c, NDL N k c → NDL N (N - 1) c := fun c g => by
    rcases g with g | ⟨i, g1, g2⟩
    · exact Or.inl g
    · exact Or.inr ⟨i, by omega, g2⟩
  have s1 := setOfN (F := F) hN h (up _ (nd_ndl (P := fP (KK X Y N)) (Q := fQ (KK X Y N)) (j := k) ha))
  have s2 := setOfN (F := F) hN h (up _ (nd_ndl (P := fP (KK X Y N)) (Q := fQ (KK X Y N)) (j := k) hb))
  unfold snN at s1 s2
  rw [sn_nd (by omega)] at s1 s2
  obtain ⟨f, e, g⟩ := lpI (body := fun s68 : Int32 × (Nat → Nat → Int32) => mX7_link_b68 F (nI (R k)) (nI N) (nI (smB (fP (KK X Y N)) (fQ (KK X Y N)) k (fP (KK X Y N) k))) (nI (smB (fP (KK X Y N)) (fQ (KK X Y N)) k (fQ (KK X Y N) k))) (nI (fP (KK X Y N) k)) (nI (fQ (KK X Y N) k)) s68.1 s68.2) (F := F)
    (fun p (f : Nat → Nat → Int32) => (nI p, f)) (fun p f => LNK (fP (KK X Y N)) (fQ (KK X Y N)) R N k p 0 f) 0 N (fun f => f) far (by omega) (s0 := ((0 : Int32), far)) rfl ⟨hf, fun x y _ _ o => by omega⟩ (fun p f _ hp hI => by
      obtain ⟨f', e', g'⟩ := link_p (F := F) hF hN hK hne hp hI
      refine ⟨f', ?_, g'⟩
      unfold mX7_link_b68
      simp only []
      rw [if_neg (show ¬ nI N ≤ nI p by rw [nI_leE (by omega) (by omega)]; omega), e', Option.bind_some, nI_1]) (fun f _ => by
      unfold mX7_link_b68
      simp only []
      rw [if_pos (show nI N ≤ nI N by rw [nI_leE (by omega) (by omega)]; omega)]) (by omega)
  refine ⟨f, ?_, fun x y hxy => ?_⟩
  · unfold mX7_link
    rw [rdI_n (by omega) (by omega), Option.bind_some, j.2.1, s1, Option.bind_some, rdI_n (by omega) (by omega), Option.bind_some, j.2.2.2.1, s2, Option.bind_some, rdI_n (by omega) (by omega), Option.bind_some, j.2.2.1, rdI_n (by omega) (by omega), Option.bind_some, j.2.2.2.2.2.2.1,
      if_neg (by rw [nI_lt0 (by omega)]; exact id), if_neg (show ¬ (24 : Int32) ≤ nI (fP (KK X Y N) k) by rw [c24, nI_leE (by omega) (by omega)]; omega), if_neg (by rw [nI_lt0 (by omega)]; exact id), if_pos (show nI (fQ (KK X Y N) k) < (24 : Int32) by rw [c24, nI_ltE (by omega) (by omega)]; omega), e]
  · obtain ⟨_, _, nE, sp, sm, cr, _⟩ := fd_new (R := R) hK hne
    rcases sp x y hxy with o | ⟨a, b, c, hx, hy⟩
    · rw [g.1 x y o, (sm x y o).2.2]
    · rcases c with ⟨c1, c2⟩ | ⟨c1, c2⟩ <;> rw [c1] at hx <;> rw [c2] at hy
      · exact (g.2 x y hx hy (Or.inl hx.1)).1
      · have hS := sm_part (P := fP (KK X Y N)) (Q := fQ (KK X Y N)) (N := N) k (fun i hi => hK i (by omega))
        exact (g.2 y x ⟨hy.2.1, hy.1, part_symm hS hy.1 hy.2.1 hy.2.2⟩ ⟨hx.2.1, hx.1, part_symm hS hx.1 hx.2.1 hx.2.2⟩ (Or.inl hy.2.1)).2
theorem measure7 {F N : Nat} {X Y R : Nat → Nat} {aparts fs firsts ja os parts pa roots seconds : Nat → Int32} {pairs : Nat → Int64} {x2 c n : Int32} (hF : 1000 ≤ F) (hN : N ≤ 24) (h : TR2 X Y N aparts fs firsts ja os parts pa roots seconds pairs) (hc : c = nI (N - 1)) (hn : n = nI N)
    (hR : x2 = 0 ∧ R = (fun _ => 1) ∨ x2 = 1 ∧ R = RR X Y N) (far : Nat → Nat → Int32) :
    ∃ far', mX7_measure F x2 c n far fs firsts os parts roots seconds = some far' ∧ ∀ x y, x < N → y < N → far' x y = nI (tdB X Y N R x y) := by
  subst hc
  subst hn
  obtain ⟨f, e, g⟩ := lpI (body := fun s2 : Int32 × (Nat → Nat → Int32) => mX7_measure_b2 F (nI N) s2.1 s2.2) (F := F)
    (fun p (f : Nat → Nat → Int32) => (nI p, f)) (fun p f => ∀ x, x < p → f x x = 0) 0 N (fun f => f) far (by omega) (s0 := ((0 : Int32), far)) rfl (fun x hx => absurd hx (Nat.not_lt_zero x)) (fun p f _ hp hI => by
      refine ⟨va_up f p (upd (f p) p 0), ?_, fun x hx => ?_⟩
      · unfold mX7_measure_b2
        simp only []
        rw [if_neg (show ¬ nI N ≤ nI p by rw [nI_leE (by omega) (by omega)]; omega), ck_n (by omega), Option.bind_some, tn_n (by omega), wrI_n (by omega) (by omega), Option.bind_some, Option.bind_some, nI_1]
      · by_cases c : x = p
        · rw [c]
          have e1 : va_up f p (upd (f p) p 0) p = upd (f p) p 0 := if_pos rfl
          rw [e1]
          exact if_pos rfl
        · have e1 : va_up f p (upd (f p) p 0) x = f x := if_neg c
          rw [e1]
          exact hI x (by omega)) (fun f _ => by
      unfold mX7_measure_b2
      simp only []
      rw [if_pos (show nI N ≤ nI N by rw [nI_leE (by omega) (by omega)]; omega)]) (by omega)
  obtain ⟨f2, e2, g2⟩ := lpI (body := fun s30 : Int32 × (Nat → Nat → Int32) => mX7_measure_b30 F x2 (nI (N - 1)) (nI N) fs firsts os parts roots seconds s30.1 s30.2) (F := F)
    (fun k (f : Nat → Nat → Int32) => (nI k, f)) (fun k f => FARS (fP (KK X Y N)) (fQ (KK X Y N)) R N k f) 0 (N - 1) (fun f => f) f (by omega) (s0 := ((0 : Int32), f)) rfl (fun x y hxy => by
      have exy : x = y := by
        have t := hxy.2.2
        simp only [smB, Nat.testBit_two_pow] at t
        exact of_decide_eq_true t
      rw [← exy, g x hxy.1]
      rfl) (fun k f' _ hk hI => by
      obtain ⟨f'', e', g'⟩ := link7 (F := F) hF hN h hk hI
      refine ⟨f'', ?_, g'⟩
      unfold mX7_measure_b30
      simp only []
      rw [if_neg (show ¬ nI (N - 1) ≤ nI k by rw [nI_leE (by omega) (by omega)]; omega)]
      rcases hR with ⟨q1, q2⟩ | ⟨q1, q2⟩
      · rw [q2] at e'
        rw [if_pos q1, show (1 : Int32) = nI 1 from rfl, e', Option.bind_some, nI_add]
      · rw [q2] at e'
        rw [if_neg (by rw [q1]; decide), rdI_n (by omega) (by omega), Option.bind_some, (h.1 k hk).2.2.2.2.2.1]
        have e3 : mX7_link F (nI k) (nI (rt (KK X Y N k / 1024))) (nI N) f' fs firsts os parts seconds = some f'' := e'
        rw [e3, Option.bind_some, nI_1]) (fun f _ => by
      unfold mX7_measure_b30
      simp only []
      rw [if_pos (show nI (N - 1) ≤ nI (N - 1) by rw [nI_leE (by omega) (by omega)]; omega)]) (by omega)
  refine ⟨f2, ?_, fun x y hx hy => g2 x y ⟨hx, hy, tree_all hN hx hy⟩⟩
  unfold mX7_measure
  rw [e, Option.bind_some, e2]
