/-! ===== PURE 40: best, the frontier ===== -/
theorem pm_close {P Q : Nat → Nat} {N k l q : Nat} (h : PART N (smB P Q k)) (ha : P k < N) (hb : Q k < N) (hl : l < N) (g : (pmB P Q k).testBit l = true) (g2 : (smB P Q k l).testBit q = true) : (pmB P Q k).testBit q = true := by
  have e : pmB P Q k = smB P Q k (P k) ||| smB P Q k (Q k) := rfl
  rw [e, or_bit, Bool.or_eq_true] at g ⊢
  rcases g with g | g
  · rw [(h _ ha).2.2 l hl g] at g2; exact Or.inl g2
  · rw [(h _ hb).2.2 l hl g] at g2; exact Or.inr g2
/-- all of one part are in one node -/
theorem nd_same {P Q : Nat → Nat} {N : Nat} : ∀ j, (∀ i, i < j → P i < N ∧ Q i < N) → ∀ p q, p < N → q < N → (smB P Q j p).testBit q = true → ndB P Q j p = ndB P Q j q := by
  intro j
  induction j with
  | zero =>
    intro _ p q _ _ g
    have : (2 ^ p).testBit q = true := g
    rw [Nat.testBit_two_pow] at this
    rw [of_decide_eq_true this]
  | succ j ih =>
    intro h p q hp hq g
    have hj : ∀ i, i < j → P i < N ∧ Q i < N := fun i hi => h i (by omega)
    have hS := sm_part (P := P) (Q := Q) (N := N) j hj
    have ⟨ha, hb⟩ := h j (by omega)
    by_cases c : (pmB P Q j).testBit p = true
    · have e : smB P Q (j + 1) p = pmB P Q j := if_pos c
      rw [e] at g
      have e1 : ndB P Q (j + 1) p = 100 + j := if_pos c
      have e2 : ndB P Q (j + 1) q = 100 + j := if_pos g
      rw [e1, e2]
    · have e : smB P Q (j + 1) p = smB P Q j p := if_neg c
      rw [e] at g
      have c2 : ¬ (pmB P Q j).testBit q = true := fun g2 => c (pm_close hS ha hb hq g2 (part_symm hS hp hq g))
      have e1 : ndB P Q (j + 1) p = ndB P Q j p := if_neg c
      have e2 : ndB P Q (j + 1) q = ndB P Q j q := if_neg c2
      rw [e1, e2]
      exact ih hj p q hp hq g
/-- the set of a node -/
def snB (P Q : Nat → Nat) (x : Nat) : Nat := if 100 ≤ x then pmB P Q (x - 100) else 2 ^ x
theorem sn_J {P Q : Nat → Nat} {j : Nat} : snB P Q (100 + j) = pmB P Q j := by
  unfold snB
  rw [if_pos (by omega), Nat.add_sub_cancel_left]
theorem sn_P {P Q : Nat → Nat} {p : Nat} (hp : p < 100) : snB P Q p = 2 ^ p := if_neg (by omega)
theorem sn_nd {P Q : Nat → Nat} {j p : Nat} (hp : p < 100) : snB P Q (ndB P Q j p) = smB P Q j p := by
  rcases nd_or (P := P) (Q := Q) j p with ⟨a, b⟩ | ⟨i, a, b, c⟩
  · rw [a, b, sn_P hp]
  · rw [b, c, sn_J]
/-- where each point stands once the last t joins are looked at -/
def frB (sp : Nat → Bool) (P Q : Nat → Nat) (M : Nat) : Nat → Nat → Nat
  | 0, l => ndB P Q M l
  | t + 1, l => if frB sp P Q M t l = 100 + (M - 1 - t) ∧ sp (M - 1 - t) = true then ndB P Q (M - 1 - t) l else frB sp P Q M t l
theorem fr_all {sp : Nat → Bool} {P Q : Nat → Nat} {N M : Nat} (hN : N ≤ 24) (hK : ∀ i, i < M → P i < N ∧ Q i < N) : ∀ t, t ≤ M → ∀ l, l < N →
    (frB sp P Q M t l = ndB P Q (M - t) l ∨ ∃ i, M - t ≤ i ∧ i < M ∧ frB sp P Q M t l = 100 + i ∧ sp i = false) ∧ (snB P Q (frB sp P Q M t l)).testBit l = true ∧
    ∀ q, q < N → (snB P Q (frB sp P Q M t l)).testBit q = true → frB sp P Q M t q = frB sp P Q M t l := by
  intro t
  induction t with
  | zero =>
    intro _ l hl
    have hS := sm_part (P := P) (Q := Q) (N := N) M hK
    have e : snB P Q (frB sp P Q M 0 l) = smB P Q M l := sn_nd (by omega)
    refine ⟨Or.inl rfl, by rw [e]; exact (hS l hl).1, fun q hq g => ?_⟩
    rw [e] at g
    exact (nd_same M hK l q hl hq g).symm
  | succ t ih =>
    intro ht l hl
    have ⟨o, m, c⟩ := ih (by omega) l hl
    have hKk : ∀ i, i < M - 1 - t → P i < N ∧ Q i < N := fun i hi => hK i (by omega)
    have hS := sm_part (P := P) (Q := Q) (N := N) (M - 1 - t) hKk
    have ⟨ha, hb⟩ := hK (M - 1 - t) (by omega)
    have ek : M - (t + 1) = M - 1 - t := by omega
    have ek2 : M - t = (M - 1 - t) + 1 := by omega
    rw [ek]
    rw [ek2] at o
    generalize ekk : M - 1 - t = k at *
    have stp : ∀ q, frB sp P Q M (t + 1) q = if frB sp P Q M t q = 100 + k ∧ sp k = true then ndB P Q k q else frB sp P Q M t q := fun q => by rw [← ekk]; rfl
    by_cases s : frB sp P Q M t l = 100 + k ∧ sp k = true
    · have e : frB sp P Q M (t + 1) l = ndB P Q k l := by rw [stp, if_pos s]
      have e2 : snB P Q (ndB P Q k l) = smB P Q k l := sn_nd (by omega)
      rw [e, e2]
      refine ⟨Or.inl rfl, (hS l hl).1, fun q hq g => ?_⟩
      rw [s.1, sn_J] at m
      have g2 := pm_close hS ha hb hl m g
      have f := c q hq (by rw [s.1, sn_J]; exact g2)
      rw [s.1] at f
      rw [stp, if_pos ⟨f, s.2⟩]
      exact (nd_same k hKk l q hl hq g).symm
    · have e : frB sp P Q M (t + 1) l = frB sp P Q M t l := by rw [stp, if_neg s]
      rw [e]
      refine ⟨?_, m, fun q hq g => ?_⟩
      · rcases o with o | ⟨i, i1, i2, i3, i4⟩
        · by_cases g : (pmB P Q k).testBit l = true
          · have e1 : ndB P Q (k + 1) l = 100 + k := if_pos g
            rw [e1] at o
            refine Or.inr ⟨k, Nat.le_refl k, by omega, o, ?_⟩
            cases q : sp k with
            | true => exact absurd ⟨o, q⟩ s
            | false => rfl
          · have e1 : ndB P Q (k + 1) l = ndB P Q k l := if_neg g
            exact Or.inl (by rw [o, e1])
        · exact Or.inr ⟨i, by omega, i2, i3, i4⟩
      · have f := c q hq g
        rw [stp, f, if_neg s]
/-- the chosen nodes make parts -/
theorem fr_part {sp : Nat → Bool} {P Q : Nat → Nat} {N M : Nat} (hN : N ≤ 24) (hK : ∀ i, i < M → P i < N ∧ Q i < N) {t : Nat} (ht : t ≤ M) : PART N (fun l => snB P Q (frB sp P Q M t l)) := by
  intro p hp
  have ⟨o, m, c⟩ := fr_all (sp := sp) hN hK t ht p hp
  refine ⟨m, ?_, fun q hq g => congrArg (snB P Q) (c q hq g)⟩
  show snB P Q (frB sp P Q M t p) < 2 ^ N
  rcases o with o | ⟨i, _, i2, i3, _⟩
  · rw [o, sn_nd (by omega)]
    exact sm_lt (M - t) (fun i hi => hK i (by omega)) p hp
  · rw [i3, sn_J]
    exact pm_lt (fun k hk => hK k (by omega))
