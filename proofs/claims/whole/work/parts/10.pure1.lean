/-! ===== PURE 1: loops of the models, ints as whole numbers ===== -/
def iter {α : Type} (f : Nat → α → α) : Nat → α → α
  | 0, a => a
  | n + 1, a => f n (iter f n a)
theorem loop_succ {σ ρ : Type} {body : σ → Option (σ ⊕ ρ)} {n : Nat} {s s' : σ} (h : body s = some (.inl s')) : loop body (n + 1) s = loop body n s' := by
  show (match body s with | none => none | some (.inl s') => loop body n s' | some (.inr r) => some r) = _
  rw [h]
theorem loop_out {σ ρ : Type} {body : σ → Option (σ ⊕ ρ)} {n : Nat} {s : σ} {r : ρ} (h : body s = some (.inr r)) : loop body (n + 1) s = some r := by
  show (match body s with | none => none | some (.inl s') => loop body n s' | some (.inr r) => some r) = _
  rw [h]
theorem loop_inv {σ ρ : Type} {body : σ → Option (σ ⊕ ρ)} (I : σ → Prop) (P : ρ → Prop) (μ : σ → Nat)
    (h : ∀ s, I s → (∃ s', body s = some (.inl s') ∧ I s' ∧ μ s' < μ s) ∨ (∃ r, body s = some (.inr r) ∧ P r)) :
    ∀ (n : Nat) (s : σ), I s → μ s < n → ∃ r, loop body n s = some r ∧ P r := by
  intro n
  induction n with
  | zero => intro s _ h2; omega
  | succ n ih =>
    intro s hI hm
    rcases h s hI with ⟨s', e, hI', hl⟩ | ⟨r, e, hP⟩
    · obtain ⟨r, e2, hP⟩ := ih s' hI' (by omega)
      exact ⟨r, by rw [loop_succ e, e2], hP⟩
    · exact ⟨r, loop_out e, hP⟩
/-- a loop that counts up to n -/
theorem loop_up {σ ρ α : Type} {body : σ → Option (σ ⊕ ρ)} (enc : Nat → α → σ) (f : Nat → α → α) (I : Nat → α → Prop) (n : Nat) (out : α → ρ)
    (hb : ∀ k a, k < n → I k a → body (enc k a) = some (.inl (enc (k + 1) (f k a))) ∧ I (k + 1) (f k a))
    (he : ∀ a, I n a → body (enc n a) = some (.inr (out a))) (a0 : α) (h0 : I 0 a0) (F : Nat) (hF : n < F) :
    loop body F (enc 0 a0) = some (out (iter f n a0)) ∧ I n (iter f n a0) := by
  have key : ∀ k, k ≤ n → loop body F (enc 0 a0) = loop body (F - k) (enc k (iter f k a0)) ∧ I k (iter f k a0) := by
    intro k
    induction k with
    | zero => intro _; exact ⟨rfl, h0⟩
    | succ k ih =>
      intro hk
      obtain ⟨e, hI⟩ := ih (by omega)
      obtain ⟨e2, hI2⟩ := hb k _ (by omega) hI
      refine ⟨?_, hI2⟩
      rw [e, show F - k = (F - (k + 1)) + 1 by omega, loop_succ e2]
      rfl
  obtain ⟨e, hI⟩ := key n (Nat.le_refl n)
  refine ⟨?_, hI⟩
  rw [e, show F - n = (F - n - 1) + 1 by omega, loop_out (he _ hI)]
/-- a loop that seeks: the first k below n of which p answers -/
def seek {ρ : Type} (p : Nat → Option ρ) : Nat → Nat → Option ρ
  | 0, _ => none
  | n + 1, k => match p k with
    | some r => some r
    | none => seek p n (k + 1)
theorem loop_seek {σ ρ : Type} {body : σ → Option (σ ⊕ ρ)} (enc : Nat → σ) (p : Nat → Option ρ) (n : Nat) (d : ρ)
    (hb : ∀ k, k < n → body (enc k) = match p k with | some r => some (.inr r) | none => some (.inl (enc (k + 1))))
    (he : body (enc n) = some (.inr d)) (F : Nat) (hF : n < F) :
    loop body F (enc 0) = some ((seek p n 0).getD d) := by
  have key : ∀ m k, k + m = n → ∀ F, m < F → loop body F (enc k) = some ((seek p m k).getD d) := by
    intro m
    induction m with
    | zero =>
      intro k hk F hF
      rw [show F = (F - 1) + 1 by omega, show k = n by omega, loop_out he]
      rfl
    | succ m ih =>
      intro k hk F hF
      have e := hb k (by omega)
      rw [show F = (F - 1) + 1 by omega]
      unfold seek
      cases hp : p k with
      | some r => rw [hp] at e; rw [loop_out e]; rfl
      | none => rw [hp] at e; rw [loop_succ e, ih (k + 1) (by omega) (F - 1) (by omega)]
  exact key n 0 (by omega) F hF
theorem seek_none {ρ : Type} {p : Nat → Option ρ} : ∀ {n k : Nat}, seek p n k = none ↔ ∀ j, k ≤ j → j < k + n → p j = none
  | 0, k => ⟨fun _ j h1 h2 => by omega, fun _ => rfl⟩
  | n + 1, k => by
    unfold seek
    cases hp : p k with
    | some r => exact ⟨fun h => (by cases h), fun h => (by have := h k (Nat.le_refl _) (by omega); rw [hp] at this; cases this)⟩
    | none =>
      refine Iff.trans seek_none ⟨fun h j h1 h2 => ?_, fun h j h1 h2 => h j (by omega) (by omega)⟩
      rcases Nat.eq_or_lt_of_le h1 with e | e
      · subst e; exact hp
      · exact h j e (by omega)
theorem seek_some {ρ : Type} {p : Nat → Option ρ} {r : ρ} : ∀ {n k : Nat}, seek p n k = some r ↔ ∃ j, k ≤ j ∧ j < k + n ∧ p j = some r ∧ ∀ i, k ≤ i → i < j → p i = none
  | 0, k => ⟨fun h => (by cases h), fun ⟨j, h1, h2, _⟩ => by omega⟩
  | n + 1, k => by
    unfold seek
    cases hp : p k with
    | some q =>
      refine ⟨fun h => ?_, fun ⟨j, h1, h2, h3, h4⟩ => ?_⟩
      · cases h; exact ⟨k, Nat.le_refl _, by omega, hp, fun i h1 h2 => by omega⟩
      · rcases Nat.eq_or_lt_of_le h1 with e | e
        · subst e; rw [← h3, hp]
        · have := h4 k (Nat.le_refl _) e; rw [hp] at this; cases this
    | none =>
      refine Iff.trans seek_some ⟨fun ⟨j, h1, h2, h3, h4⟩ => ⟨j, by omega, by omega, h3, fun i g1 g2 => ?_⟩, fun ⟨j, h1, h2, h3, h4⟩ => ?_⟩
      · rcases Nat.eq_or_lt_of_le g1 with e | e
        · subst e; exact hp
        · exact h4 i e g2
      · rcases Nat.eq_or_lt_of_le h1 with e | e
        · subst e; rw [hp] at h3; cases h3
        · exact ⟨j, e, by omega, h3, fun i g1 g2 => h4 i (by omega) g2⟩
theorem rdI_n {n k : Nat} {f : Nat → Int32} (h : k < n) (hn : n ≤ 1000) : rdI n f (nI k) = some (f k) := by
  have e := nI_toInt (n := k) (by omega)
  unfold rdI
  rw [e, if_pos ⟨by omega, by omega⟩]
  rfl
theorem rdL_n {n k : Nat} {f : Nat → Int64} (h : k < n) (hn : n ≤ 1000) : rdL n f (nI k) = some (f k) := by
  have e := nI_toInt (n := k) (by omega)
  unfold rdL
  rw [e, if_pos ⟨by omega, by omega⟩]
  rfl
theorem wrI_n {n k : Nat} {f : Nat → Int32} {x : Int32} (h : k < n) (hn : n ≤ 1000) : wrI n f (nI k) x = some (upd f k x) := by
  have e := nI_toInt (n := k) (by omega)
  unfold wrI
  rw [e, if_pos ⟨by omega, by omega⟩]
  rfl
theorem wrL_n {n k : Nat} {f : Nat → Int64} {x : Int64} (h : k < n) (hn : n ≤ 1000) : wrL n f (nI k) x = some (vp_updL f k x) := by
  have e := nI_toInt (n := k) (by omega)
  unfold wrL
  rw [e, if_pos ⟨by omega, by omega⟩]
  rfl
theorem rdI_neg {n : Nat} {f : Nat → Int32} {i : Int32} (h : i.toInt < 0) : rdI n f i = none := by
  unfold rdI
  rw [if_neg (by omega)]
/-- ints by the whole numbers that they are -/
theorem tI_n {k : Nat} (h : k < 2 ^ 31) : (nI k).toInt = (k : Int) := nI_toInt h
theorem tI_ext {x y : Int32} (h : x.toInt = y.toInt) : x = y := Int32.toInt_inj.mp h
theorem tI_rng (x : Int32) : -2147483648 ≤ x.toInt ∧ x.toInt < 2147483648 := ⟨Int32.le_toInt x, Int32.toInt_lt x⟩
theorem tI_bm {z : Int} (h1 : -2147483648 ≤ z) (h2 : z < 2147483648) : z.bmod (2 ^ 32) = z := by
  rw [Int.bmod_eq_of_le] <;> omega
theorem tI_add {x y : Int32} {a b : Int} (hx : x.toInt = a) (hy : y.toInt = b) (h1 : -2147483648 ≤ a + b) (h2 : a + b < 2147483648) : (x + y).toInt = a + b := by
  rw [Int32.toInt_add, hx, hy, tI_bm h1 h2]
theorem tI_sub {x y : Int32} {a b : Int} (hx : x.toInt = a) (hy : y.toInt = b) (h1 : -2147483648 ≤ a - b) (h2 : a - b < 2147483648) : (x - y).toInt = a - b := by
  rw [Int32.toInt_sub, hx, hy, tI_bm h1 h2]
theorem tI_mul {x y : Int32} {a b : Int} (hx : x.toInt = a) (hy : y.toInt = b) (h1 : -2147483648 ≤ a * b) (h2 : a * b < 2147483648) : (x * y).toInt = a * b := by
  rw [Int32.toInt_mul, hx, hy, tI_bm h1 h2]
theorem tI_le {x y : Int32} : x ≤ y ↔ x.toInt ≤ y.toInt := Int32.le_iff_toInt_le
theorem tI_lt {x y : Int32} : x < y ↔ x.toInt < y.toInt := Int32.lt_iff_toInt_lt
theorem tI_eq {x y : Int32} : x = y ↔ x.toInt = y.toInt := Int32.toInt_inj.symm
theorem tI_nI {x : Int32} (h : 0 ≤ x.toInt) : x = nI x.toInt.toNat := by
  apply tI_ext
  have := tI_rng x
  rw [tI_n (by omega)]
  omega
