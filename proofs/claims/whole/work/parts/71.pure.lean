/-! ===== PURE 62: a chain of corners ===== -/
/-- a chain: in order, from the first to the last one of P, none of P to the right of it, none farther on it -/
def CHAIN (X Y : Nat → Int) (P : Nat → Prop) (h : Nat → Nat) (n : Nat) : Prop :=
  1 ≤ n ∧ (∀ i, i < n → P (h i)) ∧ (∀ i, i + 1 < n → lx X Y (h i) (h (i + 1))) ∧ (∀ q, P q → q = h (n - 1) ∨ lx X Y q (h (n - 1))) ∧ (∀ q, P q → q = h 0 ∨ lx X Y (h 0) q) ∧
  (∀ i, i + 1 < n → ∀ q, P q → q ≠ h i → q ≠ h (i + 1) → 0 < trn X Y (h i) (h (i + 1)) q ∨ (trn X Y (h i) (h (i + 1)) q = 0 ∧ lx X Y (h i) q ∧ lx X Y q (h (i + 1))))
theorem chain_lt {X Y : Nat → Int} {P : Nat → Prop} {h : Nat → Nat} {n : Nat} (H : CHAIN X Y P h n) {i : Nat} : ∀ j, i < j → j < n → lx X Y (h i) (h j)
  | 0, h1, _ => absurd h1 (Nat.not_lt_zero i)
  | j + 1, h1, h2 => by
    have s := H.2.2.1 j h2
    rcases Nat.lt_succ_iff_lt_or_eq.mp h1 with g | g
    · exact lx_trans (chain_lt H j g (by omega)) s
    · rw [g]
      exact s
theorem chain_1 {X Y : Nat → Int} {P : Nat → Prop} {h : Nat → Nat} (h0 : P (h 0)) (hP : ∀ q, P q → q = h 0) : CHAIN X Y P h 1 :=
  ⟨Nat.le_refl _, fun i hi => by rw [show i = 0 by omega]; exact h0, fun i hi => by omega, fun q hq => Or.inl (hP q hq), fun q hq => Or.inl (hP q hq), fun i hi => by omega⟩
/-- all edges bear the chain's points to their left -/
theorem chain_ge {X Y : Nat → Int} {P : Nat → Prop} {h : Nat → Nat} {n : Nat} (H : CHAIN X Y P h n) {i q : Nat} (hi : i + 1 < n) (hq : P q) : 0 ≤ trn X Y (h i) (h (i + 1)) q := by
  by_cases c1 : q = h i
  · rw [c1, trn_self]
    exact Int.le_refl _
  · by_cases c2 : q = h (i + 1)
    · have e : trn X Y (h i) (h (i + 1)) (h (i + 1)) = 0 := Int.sub_self _
      rw [c2, e]
      exact Int.le_refl _
    · rcases H.2.2.2.2.2 i hi q hq c1 c2 with g | g <;> omega
/-- a new corner behind: none between it and the k-th one is to the right -/
def POP (X Y : Nat → Int) (P : Nat → Prop) (h : Nat → Nat) (n p k : Nat) : Prop := k < n ∧ ∀ q, P q → lx X Y (h k) q → 0 ≤ trn X Y (h k) p q
theorem pop_0 {X Y : Nat → Int} {P : Nat → Prop} {h : Nat → Nat} {n p : Nat} (H : CHAIN X Y P h n) : POP X Y P h n p (n - 1) :=
  ⟨by have := H.1; omega, fun q hq g => by
    rcases H.2.2.2.1 q hq with e | e
    · rw [e] at g
      exact (lx_irr g).elim
    · exact (lx_asym g e).elim⟩
theorem pop_step {X Y : Nat → Int} {P : Nat → Prop} {h : Nat → Nat} {n p k : Nat} (H : CHAIN X Y P h n) (hp : ∀ q, P q → lx X Y q p) (ht : ∀ a b, P a → P b → a ≠ b → lx X Y a b ∨ lx X Y b a)
    (hk : POP X Y P h n p (k + 1)) (hc : trn X Y (h k) (h (k + 1)) p ≤ 0) : POP X Y P h n p k := by
  have hkn := hk.1
  refine ⟨by omega, fun q hq g => ?_⟩
  have mg := H.2.1 k (by omega)
  have mt := H.2.1 (k + 1) hkn
  have gt := H.2.2.1 k hkn
  by_cases c : q = h (k + 1)
  · have s := trn_swap X Y (h k) (h (k + 1)) p
    rw [c]
    omega
  · rcases ht q (h (k + 1)) hq mt c with e | e
    · exact tC g gt (hp _ mg) (chain_ge H hkn hq) hc
    · exact tD (hp q hq) (hp _ mt) (hp _ mg) (hk.2 q hq e) hc
theorem chain_push {X Y : Nat → Int} {P : Nat → Prop} {h : Nat → Nat} {n p k : Nat} (H : CHAIN X Y P h n) (hp : ∀ q, P q → lx X Y q p) (ht : ∀ a b, P a → P b → a ≠ b → lx X Y a b ∨ lx X Y b a)
    (hk : POP X Y P h n p k) (hs : k = 0 ∨ 0 < trn X Y (h (k - 1)) (h k) p) : CHAIN X Y (fun q => P q ∨ q = p) (fun i => if i ≤ k then h i else p) (k + 2) := by
  have hkn := hk.1
  have le : ∀ i, i ≤ k → (if i ≤ k then h i else p) = h i := fun i hi => if_pos hi
  have gt : (if k + 1 ≤ k then h (k + 1) else p) = p := if_neg (by omega)
  have mk := H.2.1 k hkn
  /- all edges kept have p to their left -/
  have ed : ∀ d i, i + d + 1 = k → 0 < trn X Y (h i) (h (i + 1)) p := by
    intro d
    induction d with
    | zero =>
      intro i hi
      rcases hs with hs | hs
      · omega
      · rw [show i + 1 = k by omega, show i = k - 1 by omega]
        exact hs
    | succ d ih =>
      intro i hi
      have a := ih (i + 1) (by omega)
      have l1 := H.2.2.1 i (by omega)
      have l2 := H.2.2.1 (i + 1) (by omega)
      have l3 := hp _ (H.2.1 (i + 1) (by omega))
      have c : 0 < trn X Y (h i) (h (i + 1)) (h (i + 1 + 1)) := by
        have l4 := lx_trans l1 l2
        rcases H.2.2.2.2.2 i (by omega) (h (i + 1 + 1)) (H.2.1 (i + 1 + 1) (by omega)) (fun e => by rw [e] at l4; exact lx_irr l4) (fun e => by rw [e] at l2; exact lx_irr l2) with g | g
        · exact g
        · exact (lx_asym l2 g.2.2).elim
      exact tA l1 l2 l3 c a
  refine ⟨by omega, fun i hi => ?_, fun i hi => ?_, fun q hq => ?_, fun q hq => ?_, fun i hi q hq n1 n2 => ?_⟩
  · by_cases c : i ≤ k
    · show P (if i ≤ k then h i else p) ∨ (if i ≤ k then h i else p) = p
      rw [if_pos c]
      exact Or.inl (H.2.1 i (by omega))
    · show P (if i ≤ k then h i else p) ∨ (if i ≤ k then h i else p) = p
      rw [if_neg c]
      exact Or.inr rfl
  · show lx X Y (if i ≤ k then h i else p) (if i + 1 ≤ k then h (i + 1) else p)
    rw [le i (by omega)]
    by_cases c : i + 1 ≤ k
    · rw [if_pos c]
      exact H.2.2.1 i (by omega)
    · rw [if_neg c]
      exact hp _ (H.2.1 i (by omega))
  · show q = (if k + 2 - 1 ≤ k then h (k + 2 - 1) else p) ∨ lx X Y q (if k + 2 - 1 ≤ k then h (k + 2 - 1) else p)
    rw [show k + 2 - 1 = k + 1 by omega, gt]
    rcases hq with hq | hq
    · exact Or.inr (hp q hq)
    · exact Or.inl hq
  · show q = (if 0 ≤ k then h 0 else p) ∨ lx X Y (if 0 ≤ k then h 0 else p) q
    rw [le 0 (by omega)]
    rcases hq with hq | hq
    · exact H.2.2.2.2.1 q hq
    · rw [hq]
      exact Or.inr (hp _ (H.2.1 0 (by omega)))
  · have n1' : q ≠ (if i ≤ k then h i else p) := n1
    have n2' : q ≠ (if i + 1 ≤ k then h (i + 1) else p) := n2
    show 0 < trn X Y (if i ≤ k then h i else p) (if i + 1 ≤ k then h (i + 1) else p) q ∨ (trn X Y (if i ≤ k then h i else p) (if i + 1 ≤ k then h (i + 1) else p) q = 0 ∧ lx X Y (if i ≤ k then h i else p) q ∧ lx X Y q (if i + 1 ≤ k then h (i + 1) else p))
    rw [le i (by omega)] at n1' ⊢
    by_cases c : i + 1 ≤ k
    · rw [if_pos c] at n2' ⊢
      rcases hq with hq | hq
      · exact H.2.2.2.2.2 i (by omega) q hq n1' n2'
      · rw [hq]
        exact Or.inl (ed (k - 1 - i) i (by omega))
    · rw [if_neg c] at n2' ⊢
      have ei : i = k := by omega
      rw [ei] at n1' ⊢
      rcases hq with hq | hq
      · rcases ht q (h k) hq mk n1' with g | g
        · rcases hs with hs | hs
          · rcases H.2.2.2.2.1 q hq with e | e
            · rw [hs] at n1'
              exact absurd e n1'
            · rw [hs] at g
              exact (lx_asym g e).elim
          · by_cases k0 : k = 0
            · rcases H.2.2.2.2.1 q hq with e | e
              · rw [k0] at n1'
                exact absurd e n1'
              · rw [k0] at g
                exact (lx_asym g e).elim
            · have l := H.2.2.1 (k - 1) (by omega)
              have ge := chain_ge H (i := k - 1) (by omega) hq
              rw [show k - 1 + 1 = k by omega] at l ge
              exact Or.inl (tB l g (hp _ mk) ge hs)
        · have a := hk.2 q hq g
          rcases Int.lt_or_eq_of_le a with e | e
          · exact Or.inl e
          · exact Or.inr ⟨e.symm, g, hp q hq⟩
      · exact absurd hq n2'
theorem chain_congr {X Y : Nat → Int} {P P' : Nat → Prop} {h h' : Nat → Nat} {n : Nat} (H : CHAIN X Y P h n) (hP : ∀ q, P q ↔ P' q) (hh : ∀ i, i < n → h' i = h i) : CHAIN X Y P' h' n := by
  have h1 := H.1
  refine ⟨h1, fun i hi => by rw [hh i hi]; exact (hP _).mp (H.2.1 i hi), fun i hi => by rw [hh i (by omega), hh (i + 1) hi]; exact H.2.2.1 i hi, fun q hq => by rw [hh (n - 1) (by omega)]; exact H.2.2.2.1 q ((hP q).mpr hq), fun q hq => by rw [hh 0 (by omega)]; exact H.2.2.2.2.1 q ((hP q).mpr hq), fun i hi q hq n1 n2 => ?_⟩
  rw [hh i (by omega)] at n1 ⊢
  rw [hh (i + 1) hi] at n2 ⊢
  exact H.2.2.2.2.2 i hi q ((hP q).mpr hq) n1 n2
