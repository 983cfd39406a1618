/-! ===== PURE 53: how far points are along the tree ===== -/
def fdB (P Q R : Nat → Nat) : Nat → Nat → Nat → Nat
  | 0, _, _ => 0
  | k + 1, x, y => if (smB P Q k (P k)).testBit x = true ∧ (smB P Q k (Q k)).testBit y = true then fdB P Q R k x (P k) + R k + fdB P Q R k (Q k) y
    else if (smB P Q k (P k)).testBit y = true ∧ (smB P Q k (Q k)).testBit x = true then fdB P Q R k y (P k) + R k + fdB P Q R k (Q k) x else fdB P Q R k x y
def adK (P Q R : Nat → Nat) (k x y l : Nat) : Prop := ∃ j, j < k ∧ l = R j ∧ OB (P j) (Q j) x y
def enB (P Q : Nat → Nat) (N k x y : Nat) : Prop := x < N ∧ y < N ∧ (smB P Q k x).testBit y = true
theorem en_iff {N : Nat} {s : Nat → Nat} (h : PART N s) {x y : Nat} (hx : x < N) (hy : y < N) : (s x).testBit y = true ↔ s y = s x :=
  ⟨fun g => (h x hx).2.2 y hy g, fun g => by rw [← g]; exact (h y hy).1⟩
theorem fd_new {P Q R : Nat → Nat} {N k : Nat} (hK : ∀ i, i < k + 1 → P i < N ∧ Q i < N) (hne : smB P Q k (P k) ≠ smB P Q k (Q k)) :
    NEWL (enB P Q N k) (enB P Q N (k + 1)) (fdB P Q (fun _ => 1) k) (fdB P Q (fun _ => 1) (k + 1)) (fdB P Q R k) (fdB P Q R (k + 1)) (adK P Q R k) (adK P Q R (k + 1)) (P k) (Q k) (R k) := by
  have hS := sm_part (P := P) (Q := Q) (N := N) k (fun i hi => hK i (by omega))
  have ⟨ha, hb⟩ := hK k (by omega)
  have sp : ∀ x y, enB P Q N (k + 1) x y → enB P Q N k x y ∨ ∃ a b, OB (P k) (Q k) a b ∧ enB P Q N k x a ∧ enB P Q N k b y := by
    intro x y ⟨hx, hy, h⟩
    by_cases hm : (pmB P Q k).testBit x = true
    · rw [pm_sub (N := N) hm] at h
      unfold pmB at hm h
      rw [or_bit] at hm h
      rcases Bool.or_eq_true _ _ |>.mp hm with g1 | g1 <;> rcases Bool.or_eq_true _ _ |>.mp h with g2 | g2
      · refine Or.inl ⟨hx, hy, ?_⟩
        rw [en_iff hS ha hx] at g1
        rw [en_iff hS ha hy] at g2
        rw [en_iff hS hx hy, g1, g2]
      · refine Or.inr ⟨P k, Q k, Or.inl ⟨rfl, rfl⟩, ⟨hx, ha, part_symm hS ha hx g1⟩, ⟨hb, hy, g2⟩⟩
      · refine Or.inr ⟨Q k, P k, Or.inr ⟨rfl, rfl⟩, ⟨hx, hb, part_symm hS hb hx g1⟩, ⟨ha, hy, g2⟩⟩
      · refine Or.inl ⟨hx, hy, ?_⟩
        rw [en_iff hS hb hx] at g1
        rw [en_iff hS hb hy] at g2
        rw [en_iff hS hx hy, g1, g2]
    · refine Or.inl ⟨hx, hy, ?_⟩
      have e : smB P Q (k + 1) x = smB P Q k x := if_neg hm
      rw [← e]
      exact h
  have nb : ∀ x y, enB P Q N k x y → ¬ ((smB P Q k (P k)).testBit x = true ∧ (smB P Q k (Q k)).testBit y = true) ∧ ¬ ((smB P Q k (P k)).testBit y = true ∧ (smB P Q k (Q k)).testBit x = true) := by
    intro x y ⟨hx, hy, h⟩
    rw [en_iff hS hx hy] at h
    rw [en_iff hS ha hx, en_iff hS hb hy, en_iff hS ha hy, en_iff hS hb hx, h]
    exact ⟨fun g => hne (g.1.symm.trans g.2), fun g => hne (g.1.symm.trans g.2)⟩
  have smD : ∀ R' : Nat → Nat, ∀ x y, enB P Q N k x y → fdB P Q R' (k + 1) x y = fdB P Q R' k x y := by
    intro R' x y h
    have ⟨n1, n2⟩ := nb x y h
    exact (if_neg n1).trans (if_neg n2)
  have crD : ∀ R' : Nat → Nat, ∀ x y, enB P Q N k x (P k) → enB P Q N k (Q k) y → fdB P Q R' (k + 1) x y = fdB P Q R' k x (P k) + R' k + fdB P Q R' k (Q k) y ∧ fdB P Q R' (k + 1) y x = fdB P Q R' k x (P k) + R' k + fdB P Q R' k (Q k) y := by
    intro R' x y ⟨hx, _, h1⟩ ⟨_, hy, h2⟩
    have m1 := part_symm hS hx ha h1
    refine ⟨if_pos ⟨m1, h2⟩, (if_neg (fun g => ?_)).trans (if_pos ⟨m1, h2⟩)⟩
    have g1 := (en_iff hS ha hy).mp g.1
    have g2 := (en_iff hS hb hy).mp h2
    exact hne (g1.symm.trans g2)
  refine ⟨⟨ha, ha, (hS _ ha).1⟩, ⟨hb, hb, (hS _ hb).1⟩, fun g => hne ((en_iff hS ha hb).mp g.2.2).symm, sp, fun x y h => ⟨⟨h.1, h.2.1, sm_step hS ha hb h.1 h.2.2⟩, smD _ x y h, smD _ x y h⟩, fun x y h1 h2 => ?_, fun x y l => ?_⟩
  · have e1 : (pmB P Q k).testBit x = true := by
      unfold pmB
      rw [or_bit, part_symm hS h1.1 ha h1.2.2]; rfl
    have e2 : (pmB P Q k).testBit y = true := by
      unfold pmB
      rw [or_bit, h2.2.2]; simp
    have d1 := crD (fun _ => 1) x y h1 h2
    have d2 := crD R x y h1 h2
    exact ⟨⟨⟨h1.1, h2.2.1, by rw [pm_sub (N := N) e1]; exact e2⟩, ⟨h2.2.1, h1.1, by rw [pm_sub (N := N) e2]; exact e1⟩⟩, d1, d2⟩
  · refine ⟨fun ⟨j, hj, e, c⟩ => ?_, fun h => ?_⟩
    · rcases Nat.lt_succ_iff_lt_or_eq.mp hj with g | g
      · exact Or.inl ⟨j, g, e, c⟩
      · rw [g] at e c
        exact Or.inr ⟨e, c⟩
    · rcases h with ⟨j, hj, e, c⟩ | ⟨e, c⟩
      · exact ⟨j, by omega, e, c⟩
      · exact ⟨k, by omega, e, c⟩
theorem for_tree {P Q R : Nat → Nat} {N : Nat} : ∀ k, (∀ i, i < k → P i < N ∧ Q i < N) → (∀ i, i < k → smB P Q i (P i) ≠ smB P Q i (Q i)) → FOR (enB P Q N k) (fdB P Q (fun _ => 1) k) (fdB P Q R k) (adK P Q R k)
  | 0, _, _ => by
    have e : ∀ x y, enB P Q N 0 x y → x = y := by
      intro x y ⟨_, _, h⟩
      simp only [smB, Nat.testBit_two_pow] at h
      exact of_decide_eq_true h
    have n : ∀ x y l, ¬ adK P Q R 0 x y l := fun x y l ⟨j, hj, _⟩ => absurd hj (Nat.not_lt_zero j)
    refine ⟨⟨fun x y h => ?_, fun x y z h1 h2 => ?_⟩, ⟨fun _ _ => ⟨rfl, rfl⟩, fun x y h _ => e x y h, fun _ _ _ => ⟨rfl, rfl⟩, fun _ _ _ _ _ => Nat.zero_le _⟩, fun x y l h => absurd h (n x y l), fun x y l v h => absurd h (n x y l), fun x y l _ _ v h => absurd h (n x y l), fun x v h g => absurd (e x v h) g, fun x y l v h => absurd h (n x y l)⟩
    · have exy := e x y h
      rw [exy] at h ⊢
      exact h
    · rw [e x y h1]
      exact h2
  | k + 1, hK, hne => for_step (for_tree k (fun i hi => hK i (by omega)) (fun i hi => hne i (by omega))) (fd_new hK (hne k (by omega)))
/-- the whole tree -/
def RR (X Y : Nat → Nat) (N j : Nat) : Nat := rt (KK X Y N j / 1024)
def tdB (X Y : Nat → Nat) (N : Nat) (R : Nat → Nat) (x y : Nat) : Nat := fdB (fP (KK X Y N)) (fQ (KK X Y N)) R (N - 1) x y
def dlB (X Y : Nat → Nat) (N : Nat) : Nat → Nat → Nat := tdB X Y N (fun _ => 1)
def drB (X Y : Nat → Nat) (N : Nat) : Nat → Nat → Nat := tdB X Y N (RR X Y N)
def adT (X Y : Nat → Nat) (N x y l : Nat) : Prop := adK (fP (KK X Y N)) (fQ (KK X Y N)) (RR X Y N) (N - 1) x y l
theorem for_all {X Y : Nat → Nat} {N : Nat} (hN : N ≤ 24) : FOR (fun x y => x < N ∧ y < N) (dlB X Y N) (drB X Y N) (adT X Y N) := by
  have h := for_tree (P := fP (KK X Y N)) (Q := fQ (KK X Y N)) (R := RR X Y N) (N := N) (N - 1) (fun i hi => KK_lt hN hi) (fun i hi => (tree_parts hN (by omega)).2 hi)
  have e : enB (fP (KK X Y N)) (fQ (KK X Y N)) N (N - 1) = fun x y => x < N ∧ y < N := by
    funext x y
    exact propext ⟨fun g => ⟨g.1, g.2.1⟩, fun g => ⟨g.1, g.2, tree_all hN g.1 g.2⟩⟩
  rw [e] at h
  exact h
