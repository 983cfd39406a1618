/-! ===== PURE 52: ways along a tree ===== -/
/-- loops that count up, carry something along and may end early -/
theorem lpX {σ ρ α : Type} {body : σ → Option (σ ⊕ ρ)} {F : Nat} {s0 : σ} (St : Nat → α → σ) (I : Nat → α → Prop) (P : ρ → Prop) (a n : Nat) (x0 : α) (han : a ≤ n) (hs : s0 = St a x0) (h0 : I a x0)
    (hb : ∀ k x, a ≤ k → k < n → I k x → (∃ y, body (St k x) = some (.inl (St (k + 1) y)) ∧ I (k + 1) y) ∨ ∃ r, body (St k x) = some (.inr r) ∧ P r)
    (he : ∀ x, I n x → ∃ r, body (St n x) = some (.inr r) ∧ P r) (hF : n < F) : ∃ r, loop body F s0 = some r ∧ P r := by
  subst hs
  have key : ∀ m k, a ≤ k → k + m = n → ∀ F, m < F → ∀ x, I k x → ∃ r, loop body F (St k x) = some r ∧ P r := by
    intro m
    induction m with
    | zero =>
      intro k h1 h2 F hF x hx
      have e : k = n := by omega
      subst e
      obtain ⟨r, e, hr⟩ := he x hx
      exact ⟨r, by rw [show F = (F - 1) + 1 by omega, loop_out e], hr⟩
    | succ m ih =>
      intro k h1 h2 F hF x hx
      rcases hb k x h1 (by omega) hx with ⟨y, e, hy⟩ | ⟨r, e, hr⟩
      · obtain ⟨r, e2, hr⟩ := ih (k + 1) (by omega) (by omega) (F - 1) (by omega) y hy
        exact ⟨r, by rw [show F = (F - 1) + 1 by omega, loop_succ e, e2], hr⟩
      · exact ⟨r, by rw [show F = (F - 1) + 1 by omega, loop_out e], hr⟩
  exact key (n - a) a (Nat.le_refl _) (by omega) F (by omega) x0 h0
/-- as many different numbers below m are at most m -/
theorem pigeon {f : Nat → Nat} {n m : Nat} (h1 : ∀ i, i < n → f i < m) (h2 : ∀ i j, i < j → j < n → f i ≠ f j) : n ≤ m := by
  have e1 : sumB (fun i => sumB (fun v => if v = f i then 1 else 0) m) n = sumB (fun _ => 1) n := sumB_congr (fun i hi => by
    have s := sum_one (B := fun v => v) (b := f i) (c := 1) (m := m) (fun i j h _ => Nat.ne_of_lt h)
    rw [if_pos (hpB_iff.mpr ⟨f i, h1 i hi, rfl⟩)] at s
    exact s)
  have e2 : sumB (fun v => sumB (fun i => if v = f i then 1 else 0) n) m ≤ m * 1 := sumB_le (fun v hv => by
    have s := sum_one (B := f) (b := v) (c := 1) (m := n) h2
    have t : sumB (fun i => if v = f i then 1 else 0) n = sumB (fun k => if f k = v then 1 else 0) n := sumB_congr (fun k _ => by
      by_cases q : f k = v
      · rw [if_pos q, if_pos q.symm]
      · rw [if_neg q, if_neg (fun g => q g.symm)])
    rw [t, s]
    by_cases q : hpB f v n = true
    · rw [if_pos q]; omega
    · rw [if_neg q]; omega)
  have e3 : ∀ k, sumB (fun _ => 1) k = k := by
    intro k
    induction k with
    | zero => rfl
    | succ k ih => simp only [sumB]; rw [ih]
  rw [sumB_swap] at e1
  rw [e1, e3] at e2
  omega
/-- a forest: who is with whom, how many links apart, how long the way, which links (with their lengths) -/
def FOR (E : Nat → Nat → Prop) (D L : Nat → Nat → Nat) (A : Nat → Nat → Nat → Prop) : Prop :=
  ((∀ x y, E x y → E y x) ∧ (∀ x y z, E x y → E y z → E x z)) ∧
  ((∀ x, E x x → D x x = 0 ∧ L x x = 0) ∧ (∀ x y, E x y → D x y = 0 → x = y) ∧ (∀ x y, E x y → D x y = D y x ∧ L x y = L y x) ∧ (∀ x y z, E x y → E y z → D x z ≤ D x y + D y z)) ∧
  (∀ x y l, A x y l → E x y ∧ A y x l) ∧
  (∀ x y l v, A x y l → E x v → D x v = D y v + 1 ∨ D y v = D x v + 1) ∧
  (∀ x y l y' l' v, A x y l → A x y' l' → E x v → D y v + 1 = D x v → D y' v + 1 = D x v → y = y') ∧
  (∀ x v, E x v → x ≠ v → ∃ y l, A x y l ∧ D y v + 1 = D x v) ∧
  (∀ x y l v, A x y l → E x v → D y v + 1 = D x v → L x v = l + L y v)
def OB (a0 b0 a b : Nat) : Prop := a = a0 ∧ b = b0 ∨ a = b0 ∧ b = a0
theorem ob_sw {a0 b0 a b : Nat} (h : OB a0 b0 a b) : OB a0 b0 b a := by
  rcases h with ⟨e1, e2⟩ | ⟨e1, e2⟩
  · exact Or.inr ⟨e2, e1⟩
  · exact Or.inl ⟨e2, e1⟩
theorem ob_two {a0 b0 a b c d : Nat} (h : OB a0 b0 a b) (g : OB a0 b0 c d) : c = a ∧ d = b ∨ c = b ∧ d = a := by
  rcases h with ⟨e1, e2⟩ | ⟨e1, e2⟩ <;> rcases g with ⟨f1, f2⟩ | ⟨f1, f2⟩ <;> omega
/-- a new link joins two parts -/
def NEWL (E E' : Nat → Nat → Prop) (D D' L L' : Nat → Nat → Nat) (A A' : Nat → Nat → Nat → Prop) (a0 b0 l0 : Nat) : Prop :=
  E a0 a0 ∧ E b0 b0 ∧ ¬ E a0 b0 ∧
  (∀ x y, E' x y → E x y ∨ ∃ a b, OB a0 b0 a b ∧ E x a ∧ E b y) ∧
  (∀ x y, E x y → E' x y ∧ D' x y = D x y ∧ L' x y = L x y) ∧
  (∀ x y, E x a0 → E b0 y → (E' x y ∧ E' y x) ∧ (D' x y = D x a0 + 1 + D b0 y ∧ D' y x = D x a0 + 1 + D b0 y) ∧ L' x y = L x a0 + l0 + L b0 y ∧ L' y x = L x a0 + l0 + L b0 y) ∧
  (∀ x y l, A' x y l ↔ A x y l ∨ (l = l0 ∧ OB a0 b0 x y))
theorem for_step {E E' : Nat → Nat → Prop} {D D' L L' : Nat → Nat → Nat} {A A' : Nat → Nat → Nat → Prop} {a0 b0 l0 : Nat} (H : FOR E D L A) (K : NEWL E E' D D' L L' A A' a0 b0 l0) : FOR E' D' L' A' := by
  obtain ⟨⟨es, et⟩, ⟨d0, dz, ds, dt⟩, ae, a1, a2, a3, a4⟩ := H
  obtain ⟨ha, hb, hab, sp, sm, cr0, nA⟩ := K
  have cr : ∀ a b, OB a0 b0 a b → ∀ x y, E x a → E b y → E' x y ∧ D' x y = D x a + 1 + D b y ∧ L' x y = L x a + l0 + L b y := by
    intro a b hc x y hx hy
    rcases hc with ⟨e1, e2⟩ | ⟨e1, e2⟩
    · rw [e1] at hx ⊢
      rw [e2] at hy ⊢
      have ⟨c1, c2, c3⟩ := cr0 x y hx hy
      exact ⟨c1.1, c2.1, c3.1⟩
    · rw [e1] at hx ⊢
      rw [e2] at hy ⊢
      have ⟨c1, c2, c3⟩ := cr0 y x (es _ _ hy) (es _ _ hx)
      have s1 := ds _ _ hx
      have s2 := ds _ _ hy
      exact ⟨c1.2, by omega, by omega⟩
  have nn : ∀ a b, OB a0 b0 a b → E a a ∧ E b b ∧ ¬ E a b ∧ ¬ E b a := by
    intro a b hc
    rcases hc with ⟨e1, e2⟩ | ⟨e1, e2⟩ <;> rw [e1, e2]
    · exact ⟨ha, hb, hab, fun g => hab (es _ _ g)⟩
    · exact ⟨hb, ha, fun g => hab (es _ _ g), hab⟩
  have tt : ∀ x y z, E' x y → E' y z → E' x z ∧ D' x z ≤ D' x y + D' y z := by
    intro x y z h1 h2
    rcases sp x y h1 with g1 | ⟨a, b, c, gx, gy⟩
    · rcases sp y z h2 with g2 | ⟨a, b, c, hx, hy⟩
      · have s1 := sm x y g1
        have s2 := sm y z g2
        have s3 := sm x z (et _ _ _ g1 g2)
        have t := dt _ _ _ g1 g2
        exact ⟨s3.1, by omega⟩
      · have s1 := sm x y g1
        have s2 := cr a b c y z hx hy
        have s3 := cr a b c x z (et _ _ _ g1 hx) hy
        have t := dt _ _ _ g1 hx
        exact ⟨s3.1, by omega⟩
    · rcases sp y z h2 with g2 | ⟨a', b', c', hx, hy⟩
      · have s1 := cr a b c x y gx gy
        have s2 := sm y z g2
        have s3 := cr a b c x z gx (et _ _ _ gy g2)
        have t := dt _ _ _ gy g2
        exact ⟨s3.1, by omega⟩
      · rcases ob_two c c' with ⟨e1, e2⟩ | ⟨e1, e2⟩
        · rw [e1] at hx
          exact absurd (et _ _ _ gy hx) (nn a b c).2.2.2
        · rw [e2] at hy
          have s1 := cr a b c x y gx gy
          have s2 := cr a' b' c' y z hx (by rw [e2]; exact hy)
          have s3 := sm x z (et _ _ _ gx hy)
          have t := dt _ _ _ gx hy
          rw [e2] at s2
          exact ⟨s3.1, by omega⟩
  refine ⟨⟨fun x y h => ?_, fun x y z h1 h2 => (tt x y z h1 h2).1⟩, ⟨fun x h => ?_, fun x y h h0 => ?_, fun x y h => ?_, fun x y z h1 h2 => (tt x y z h1 h2).2⟩, fun x y l h => ?_, fun x y l v h hv => ?_, ?_, fun x v hv hne => ?_, fun x y l v h hv hd => ?_⟩
  · rcases sp x y h with h | ⟨a, b, c, hx, hy⟩
    · exact (sm y x (es _ _ h)).1
    · exact (cr b a (ob_sw c) y x (es _ _ hy) (es _ _ hx)).1
  · rcases sp x x h with h | ⟨a, b, c, hx, hy⟩
    · have s := sm x x h
      have t := d0 x h
      omega
    · exact absurd (et _ _ _ hy hx) (nn a b c).2.2.2
  · rcases sp x y h with h | ⟨a, b, c, hx, hy⟩
    · have s := sm x y h
      exact dz x y h (by omega)
    · have s := cr a b c x y hx hy
      omega
  · rcases sp x y h with h | ⟨a, b, c, hx, hy⟩
    · have s := sm x y h
      have s2 := sm y x (es _ _ h)
      have t := ds x y h
      omega
    · have s := cr a b c x y hx hy
      have s2 := cr b a (ob_sw c) y x (es _ _ hy) (es _ _ hx)
      have t1 := ds _ _ hx
      have t2 := ds _ _ hy
      omega
  · rcases (nA x y l).mp h with h | ⟨e, c⟩
    · have t := ae x y l h
      exact ⟨(sm x y t.1).1, (nA y x l).mpr (Or.inl t.2)⟩
    · have t := nn x y c
      exact ⟨(cr x y c x y t.1 t.2.1).1, (nA y x l).mpr (Or.inr ⟨e, ob_sw c⟩)⟩
  · rcases (nA x y l).mp h with h | ⟨e, c⟩
    · have t := ae x y l h
      rcases sp x v hv with g | ⟨a, b, c, hx, hy⟩
      · have s1 := sm x v g
        have s2 := sm y v (et _ _ _ (es _ _ t.1) g)
        have u := a1 x y l v h g
        omega
      · have s1 := cr a b c x v hx hy
        have s2 := cr a b c y v (et _ _ _ (es _ _ t.1) hx) hy
        have u := a1 x y l a h hx
        omega
    · have t := nn x y c
      rcases sp x v hv with g | ⟨a, b, c', hx, hy⟩
      · have s1 := sm x v g
        have s2 := cr y x (ob_sw c) y v t.2.1 g
        have z := d0 y t.2.1
        omega
      · rcases ob_two c c' with ⟨e1, e2⟩ | ⟨e1, e2⟩
        · rw [e2] at hy
          have s1 := cr x y c x v t.1 hy
          have s2 := sm y v hy
          have z := d0 x t.1
          omega
        · rw [e1] at hx
          exact absurd hx t.2.2.1
  · have key : ∀ x y l y' v, A x y l → OB a0 b0 x y' → E' x v → D' y v + 1 = D' x v → D' y' v + 1 = D' x v → False := by
      intro x y l y' v h c hv h1 h2
      have t := nn x y' c
      have u := ae x y l h
      rcases sp x v hv with g | ⟨a, b, c', hx, hy⟩
      · have s1 := sm x v g
        have s2 := cr y' x (ob_sw c) y' v t.2.1 g
        have z := d0 y' t.2.1
        omega
      · rcases ob_two c c' with ⟨e1, e2⟩ | ⟨e1, e2⟩
        · rw [e2] at hy
          have s1 := cr x y' c x v t.1 hy
          have s2 := cr x y' c y v (es _ _ u.1) hy
          have z := d0 x t.1
          omega
        · rw [e1] at hx
          exact absurd hx t.2.2.1
    intro x y l y' l' v h h' hv h1 h2
    rcases (nA x y l).mp h with g | ⟨e, c⟩
    · rcases (nA x y' l').mp h' with g' | ⟨e', c'⟩
      · have t := ae x y l g
        have t' := ae x y' l' g'
        rcases sp x v hv with g1 | ⟨a, b, c, hx, hy⟩
        · have s1 := sm x v g1
          have s2 := sm y v (et _ _ _ (es _ _ t.1) g1)
          have s3 := sm y' v (et _ _ _ (es _ _ t'.1) g1)
          exact a2 x y l y' l' v g g' g1 (by omega) (by omega)
        · have s1 := cr a b c x v hx hy
          have s2 := cr a b c y v (et _ _ _ (es _ _ t.1) hx) hy
          have s3 := cr a b c y' v (et _ _ _ (es _ _ t'.1) hx) hy
          exact a2 x y l y' l' a g g' hx (by omega) (by omega)
      · exact (key x y l y' v g c' hv h1 h2).elim
    · rcases (nA x y' l').mp h' with g' | ⟨e', c'⟩
      · exact (key x y' l' y v g' c hv h2 h1).elim
      · rcases ob_two c c' with ⟨e1, e2⟩ | ⟨e1, e2⟩ <;> omega
  · rcases sp x v hv with g | ⟨a, b, c, hx, hy⟩
    · obtain ⟨y, l, h1, h2⟩ := a3 x v g hne
      have t := ae x y l h1
      have s1 := sm x v g
      have s2 := sm y v (et _ _ _ (es _ _ t.1) g)
      exact ⟨y, l, (nA x y l).mpr (Or.inl h1), by omega⟩
    · have s1 := cr a b c x v hx hy
      by_cases q : x = a
      · have s2 := sm b v hy
        have z := d0 a (nn a b c).1
        rw [q] at s1 ⊢
        exact ⟨b, l0, (nA a b l0).mpr (Or.inr ⟨rfl, c⟩), by omega⟩
      · obtain ⟨y, l, h1, h2⟩ := a3 x a hx q
        have t := ae x y l h1
        have s2 := cr a b c y v (et _ _ _ (es _ _ t.1) hx) hy
        exact ⟨y, l, (nA x y l).mpr (Or.inl h1), by omega⟩
  · rcases (nA x y l).mp h with h | ⟨e, c⟩
    · have t := ae x y l h
      rcases sp x v hv with g | ⟨a, b, c, hx, hy⟩
      · have s1 := sm x v g
        have s2 := sm y v (et _ _ _ (es _ _ t.1) g)
        have u := a4 x y l v h g (by omega)
        omega
      · have s1 := cr a b c x v hx hy
        have s2 := cr a b c y v (et _ _ _ (es _ _ t.1) hx) hy
        have u := a4 x y l a h hx (by omega)
        omega
    · have t := nn x y c
      rcases sp x v hv with g | ⟨a, b, c', hx, hy⟩
      · have s1 := sm x v g
        have s2 := cr y x (ob_sw c) y v t.2.1 g
        omega
      · rcases ob_two c c' with ⟨e1, e2⟩ | ⟨e1, e2⟩
        · rw [e2] at hy
          have s1 := cr x y c x v t.1 hy
          have s2 := sm y v hy
          have z := d0 x t.1
          omega
        · rw [e1] at hx
          exact absurd hx t.2.2.1
/-- two on the way, as far from its start, are one -/
theorem for_uniq {E : Nat → Nat → Prop} {D L : Nat → Nat → Nat} {A : Nat → Nat → Nat → Prop} (H : FOR E D L A) {q : Nat} : ∀ i p v v', E p v → E p v' → E p q → D p v = i → D p v' = i → D v q + i = D p q → D v' q + i = D p q → v = v' := by
  obtain ⟨⟨es, et⟩, ⟨d0, dz, ds, dt⟩, ae, a1, a2, a3, a4⟩ := H
  intro i
  induction i with
  | zero =>
    intro p v v' h1 h2 _ h3 h4 _ _
    rw [← dz p v h1 h3, ← dz p v' h2 h4]
  | succ i ih =>
    intro p v v' h1 h2 h3 e1 e2 e3 e4
    have pp : E p p := et _ _ _ h1 (es _ _ h1)
    have z := d0 p pp
    have n1 : p ≠ v := fun g => by rw [← g] at e1; omega
    have n2 : p ≠ v' := fun g => by rw [← g] at e2; omega
    obtain ⟨u, l, u1, u2⟩ := a3 p v h1 n1
    obtain ⟨u', l', u1', u2'⟩ := a3 p v' h2 n2
    have t := (ae p u l u1).1
    have t' := (ae p u' l' u1').1
    have k1 := dt u v q (et _ _ _ (es _ _ t) h1) (et _ _ _ (es _ _ h1) h3)
    have k2 := dt u' v' q (et _ _ _ (es _ _ t') h2) (et _ _ _ (es _ _ h2) h3)
    have w := a1 p u l q u1 h3
    have w' := a1 p u' l' q u1' h3
    have eu : u = u' := a2 p u l u' l' q u1 u1' h3 (by omega) (by omega)
    rw [← eu] at u2' t'
    exact ih u v v' (et _ _ _ (es _ _ t) h1) (et _ _ _ (es _ _ t) h2) (et _ _ _ (es _ _ t) h3) (by omega) (by omega) (by omega) (by omega)
/-- how far two can be apart -/
theorem for_chain {E : Nat → Nat → Prop} {D L : Nat → Nat → Nat} {A : Nat → Nat → Nat → Prop} (H : FOR E D L A) {x : Nat} : ∀ d y, E x y → D x y = d → ∃ f : Nat → Nat, ∀ i, i ≤ d → E x (f i) ∧ D x (f i) = i := by
  obtain ⟨⟨es, et⟩, ⟨d0, dz, ds, dt⟩, ae, a1, a2, a3, a4⟩ := H
  intro d
  induction d with
  | zero => exact fun y h e => ⟨fun _ => y, fun i hi => ⟨h, by show D x y = i; omega⟩⟩
  | succ d ih =>
    intro y h e
    have n : y ≠ x := fun g => by
      rw [g] at e h
      have := d0 x h
      omega
    have s := ds x y h
    obtain ⟨u, l, u1, u2⟩ := a3 y x (es _ _ h) n
    have t := (ae y u l u1).1
    have xu := et _ _ _ h t
    have s2 := ds x u xu
    obtain ⟨f, hf⟩ := ih u xu (by omega)
    refine ⟨fun i => if i ≤ d then f i else y, fun i hi => ?_⟩
    by_cases q : i ≤ d
    · show E x (if i ≤ d then f i else y) ∧ D x (if i ≤ d then f i else y) = i
      rw [if_pos q]
      exact hf i q
    · show E x (if i ≤ d then f i else y) ∧ D x (if i ≤ d then f i else y) = i
      rw [if_neg q]
      exact ⟨h, by omega⟩
theorem for_bd {E : Nat → Nat → Prop} {D L : Nat → Nat → Nat} {A : Nat → Nat → Nat → Prop} (H : FOR E D L A) {N : Nat} (hE : ∀ x y, E x y → y < N) {x y : Nat} (h : E x y) : D x y < N := by
  obtain ⟨f, hf⟩ := for_chain H (D x y) y h rfl
  have := pigeon (f := f) (n := D x y + 1) (m := N) (fun i hi => hE x _ (hf i (by omega)).1) (fun i j hij hj e => by
    have a := (hf i (by omega)).2
    have b := (hf j (by omega)).2
    rw [e] at a
    omega)
  omega
/-- how long a way can be -/
theorem for_long {E : Nat → Nat → Prop} {D L : Nat → Nat → Nat} {A : Nat → Nat → Nat → Prop} (H : FOR E D L A) {c : Nat} (hA : ∀ x y l, A x y l → l ≤ c) {v : Nat} : ∀ d x, E x v → D x v = d → L x v ≤ d * c := by
  obtain ⟨⟨es, et⟩, ⟨d0, dz, ds, dt⟩, ae, a1, a2, a3, a4⟩ := H
  intro d
  induction d with
  | zero =>
    intro x h e
    have := dz x v h e
    rw [this] at h ⊢
    rw [(d0 v h).2]
    omega
  | succ d ih =>
    intro x h e
    have n : x ≠ v := fun g => by
      rw [g] at e h
      have := d0 v h
      omega
    obtain ⟨u, l, u1, u2⟩ := a3 x v h n
    have t := (ae x u l u1).1
    have k := a4 x u l v u1 h u2
    have m := ih u (et _ _ _ (es _ _ t) h) (by omega)
    have b := hA x u l u1
    rw [Nat.succ_mul]
    omega
