/-! ===== PURE 65: the outline as such ===== -/
/-- from a to b: none of S to the right of it, none farther on it -/
def EDGE (X Y : Nat → Nat) (N S a b : Nat) : Prop :=
  a ≠ b ∧ ∀ q, q < N → S.testBit q = true → q ≠ a → q ≠ b → 0 < trn (cI X) (cI Y) a b q ∨ (trn (cI X) (cI Y) a b q = 0 ∧ sqI (cI X) (cI Y) a q < sqI (cI X) (cI Y) a b)
/-- the corners from the first one on, and the first one again -/
def HULL (X Y : Nat → Nat) (N S : Nat) (C : Nat → Nat) (len : Nat) : Prop :=
  1 ≤ len ∧ len ≤ 24 ∧ (∀ j, j < len → C j < N ∧ S.testBit (C j) = true) ∧ C 0 = lo S ∧ C len = C 0 ∧ (len = 1 → ∀ q, q < N → S.testBit q = true → q = C 0) ∧ (2 ≤ len → ∀ j, j < len → EDGE X Y N S (C j) (C (j + 1))) ∧ ∀ j, 0 < j → j < len → C j ≠ C 0
theorem chain_edge {X Y : Nat → Nat} {N S : Nat} {P : Nat → Prop} {h : Nat → Nat} {n i : Nat} (H : CHAIN (cI X) (cI Y) P h n) (hP : ∀ q, q < N → S.testBit q = true → P q) (hi : i + 1 < n) : EDGE X Y N S (h i) (h (i + 1)) := by
  refine ⟨fun e => ?_, fun q hq hS n1 n2 => ?_⟩
  · have l := H.2.2.1 i hi
    rw [← e] at l
    exact lx_irr l
  · rcases H.2.2.2.2.2 i hi q (hP q hq hS) n1 n2 with g | ⟨g1, g2, g3⟩
    · exact Or.inl g
    · exact Or.inr ⟨g1, seg_lt g2 g3 g1⟩
theorem chain_edge_neg {X Y : Nat → Nat} {N S : Nat} {P : Nat → Prop} {h : Nat → Nat} {n i : Nat} (H : CHAIN (fun i => - cI X i) (fun i => - cI Y i) P h n) (hP : ∀ q, q < N → S.testBit q = true → P q) (hi : i + 1 < n) : EDGE X Y N S (h i) (h (i + 1)) := by
  refine ⟨fun e => ?_, fun q hq hS n1 n2 => ?_⟩
  · have l := H.2.2.1 i hi
    rw [← e] at l
    exact lx_irr l
  · rcases H.2.2.2.2.2 i hi q (hP q hq hS) n1 n2 with g | ⟨g1, g2, g3⟩
    · rw [trn_neg] at g
      exact Or.inl g
    · have s := seg_lt g2 g3 g1
      rw [sq_neg, sq_neg] at s
      rw [trn_neg] at g1
      exact Or.inr ⟨g1, s⟩
/-- a corner amidst a chain is aside of the way from its end to its start -/
theorem chain_in {X Y : Nat → Int} {P : Nat → Prop} {h : Nat → Nat} {n i : Nat} (H : CHAIN X Y P h n) (h0 : 0 < i) (hi : i + 1 < n) : 0 < trn X Y (h i) (h (n - 1)) (h 0) := by
  obtain ⟨j, rfl⟩ : ∃ j, i = j + 1 := ⟨i - 1, by omega⟩
  have m0 := H.2.1 0 (by omega)
  have mn := H.2.1 (n - 1) (by omega)
  have l1 := H.2.2.1 j (by omega)
  have l2 := chain_lt H (i := 0) (j + 1) (by omega) (by omega)
  have l3 := chain_lt H (i := j + 1) (n - 1) (by omega) (by omega)
  refine tB l1 l2 l3 (chain_ge H (by omega) m0) ?_
  have l4 := lx_trans l1 l3
  rcases H.2.2.2.2.2 j (by omega) (h (n - 1)) mn (fun e => by rw [e] at l4; exact lx_irr l4) (fun e => by rw [e] at l3; exact lx_irr l3) with c | c
  · exact c
  · exact (lx_asym l3 c.2.2).elim
theorem hull_2 {N S s n top : Nat} {X Y W : Nat → Nat} {h0 h : Nat → Nat} (g : GOOD N X Y W) (hSN : S < 2 ^ N) (hs1 : 1 ≤ s) (H0 : CHAIN (cI X) (cI Y) (fun q => q < N ∧ S.testBit q = true) h0 (s + 1)) (hts : h0 s = top) (hht : h 0 = top)
    (H : CHAIN (fun i => - cI X i) (fun i => - cI Y i) (fun q => q < N ∧ S.testBit q = true ∧ (0 ≤ q ∨ q = top)) h n) : 2 ≤ n ∧ HULL X Y N S (fun j => if j ≤ s then h0 j else h (j - s)) (s + n - 1) := by
  have n1 := H.1
  have hN := g.1
  have P0 : ∀ q, q < N → S.testBit q = true → q < N ∧ S.testBit q = true := fun q h1 h2 => ⟨h1, h2⟩
  have P1 : ∀ q, q < N → S.testBit q = true → q < N ∧ S.testBit q = true ∧ (0 ≤ q ∨ q = top) := fun q h1 h2 => ⟨h1, h2, Or.inl (Nat.zero_le _)⟩
  have m00 := H0.2.1 0 (by omega)
  have mn := H.2.1 (n - 1) (by omega)
  have l0t := chain_lt H0 (i := 0) s (by omega) (by omega)
  have first0 := H0.2.2.2.2.1
  have lastn := H.2.2.2.1
  have e0 : h (n - 1) = h0 0 := by
    rcases first0 (h (n - 1)) ⟨mn.1, mn.2.1⟩ with c | c
    · exact c
    · rcases lastn (h0 0) ⟨m00.1, m00.2, Or.inl (Nat.zero_le _)⟩ with d | d
      · exact d.symm
      · rw [lx_neg] at d
        exact (lx_asym c d).elim
  have n2 : 2 ≤ n := Nat.lt_of_not_le (fun c => by
    rw [show n - 1 = 0 by omega, hht, ← hts] at e0
    rw [e0] at l0t
    exact lx_irr l0t)
  have lowE : ∀ j, j ≤ s → (if j ≤ s then h0 j else h (j - s)) = h0 j := fun j hj => if_pos hj
  have upE : ∀ j, s ≤ j → (if j ≤ s then h0 j else h (j - s)) = h (j - s) := fun j hj => by
    by_cases c : j ≤ s
    · rw [if_pos c, show j = s by omega, Nat.sub_self, hts, hht]
    · rw [if_neg c]
  have ne0 : ∀ j, 0 < j → j < s + n - 1 → (if j ≤ s then h0 j else h (j - s)) ≠ h0 0 := fun j j0 jl e => by
    by_cases c : j ≤ s
    · rw [lowE j c] at e
      have := chain_lt H0 (i := 0) j j0 (by omega)
      rw [e] at this
      exact lx_irr this
    · rw [upE j (by omega), ← e0] at e
      have := chain_lt H (i := j - s) (n - 1) (by omega) (by omega)
      rw [e] at this
      exact lx_irr this
  have mem : ∀ j, j < s + n - 1 → (if j ≤ s then h0 j else h (j - s)) < N ∧ S.testBit (if j ≤ s then h0 j else h (j - s)) = true := fun j hj => by
    by_cases c : j ≤ s
    · rw [lowE j c]
      exact H0.2.1 j (by omega)
    · rw [upE j (by omega)]
      have := H.2.1 (j - s) (by omega)
      exact ⟨this.1, this.2.1⟩
  have inj : ∀ i j, i < j → j < s + n - 1 → (if i ≤ s then h0 i else h (i - s)) ≠ (if j ≤ s then h0 j else h (j - s)) := fun i j hij hj e => by
    by_cases c : j ≤ s
    · rw [lowE i (by omega), lowE j c] at e
      have := chain_lt H0 (i := i) j hij (by omega)
      rw [e] at this
      exact lx_irr this
    · by_cases d : s ≤ i
      · rw [upE i d, upE j (by omega)] at e
        have := chain_lt H (i := i - s) (j - s) (by omega) (by omega)
        rw [e] at this
        exact lx_irr this
      · by_cases i0 : i = 0
        · rw [i0, lowE 0 (by omega)] at e
          exact ne0 j (by omega) hj e.symm
        · rw [lowE i (by omega), upE j (by omega)] at e
          have a := chain_in H0 (i := i) (by omega) (by omega)
          have b := chain_in H (i := j - s) (by omega) (by omega)
          rw [Nat.add_sub_cancel, hts] at a
          rw [trn_neg, e0, hht, ← e, trn_swap] at b
          omega
  have lo0 : h0 0 = lo S := (lo_uniq (Nat.lt_of_lt_of_le hSN (Nat.pow_le_pow_right (by omega) hN)) m00.2 (fun i hi => by
    cases q : S.testBit i with
    | false => rfl
    | true =>
      have a := good_lx g hi m00.1
      rcases first0 i ⟨by omega, q⟩ with c | c
      · omega
      · exact (lx_asym a c).elim)).symm
  have len : s + n - 1 ≤ N := pigeon (f := fun j => if j ≤ s then h0 j else h (j - s)) (fun i hi => (mem i hi).1) inj
  refine ⟨n2, by omega, by omega, mem, (lowE 0 (by omega)).trans lo0, ?_, fun c => by omega, fun _ j hj => ?_, fun j j0 jl => ?_⟩
  · show (if s + n - 1 ≤ s then h0 (s + n - 1) else h (s + n - 1 - s)) = (if 0 ≤ s then h0 0 else h (0 - s))
    rw [upE _ (by omega), lowE 0 (by omega), show s + n - 1 - s = n - 1 by omega, e0]
  · show EDGE X Y N S (if j ≤ s then h0 j else h (j - s)) (if j + 1 ≤ s then h0 (j + 1) else h (j + 1 - s))
    by_cases c : j + 1 ≤ s
    · rw [lowE j (by omega), lowE (j + 1) c]
      exact chain_edge H0 P0 (by omega)
    · rw [upE j (by omega), upE (j + 1) (by omega), show j + 1 - s = j - s + 1 by omega]
      exact chain_edge_neg H P1 (by omega)
  · show (if j ≤ s then h0 j else h (j - s)) ≠ (if 0 ≤ s then h0 0 else h (0 - s))
    rw [lowE 0 (by omega)]
    exact ne0 j j0 jl
/-- the class's outline -/
theorem draw3 {F N S p : Nat} {X Y W : Nat → Nat} {xs ys : Nat → Int32} (hF : 1000 ≤ F) (g : GOOD N X Y W) (hP : PT N X Y xs ys) (hSN : S < 2 ^ N) (hp : p < N) (hS : S.testBit p = true) (c0 : Int32) (row : Nat → Int32) :
    ∃ r C len, mX3_draw F (nI S) c0 (nI N) row xs ys = some r ∧ HULL X Y N S C len ∧ r.1 = nI len ∧ ∀ j, j < len → r.2 j = nI (C j) := by
  have hN := g.1
  have h24 : S < 2 ^ 24 := Nat.lt_of_lt_of_le hSN (Nat.pow_le_pow_right (by omega) hN)
  obtain ⟨t, e, h⟩ := low_all (F := F) hF g hP (show S < 2 ^ 31 by omega) row
  rcases h with ⟨h1, _⟩ | ⟨n, h0, e1, e2, e3⟩
  · rw [h1 p hp] at hS
    exact absurd hS Bool.false_ne_true
  · have n1 := e3.1
    have nn : n ≤ N := chain_le e3 (fun q hq => hq.1)
    have m0 := e3.2.1 0 (by omega)
    by_cases c : n = 1
    · subst c
      refine ⟨t, fun _ => h0 0, 1, ?_, ⟨by omega, by omega, fun j hj => m0, ?_, rfl, fun _ q hq hSq => ?_, fun h => by omega, fun j a b => by omega⟩, e1, fun j hj => by rw [show j = 0 by omega]; exact (e2 0 (by omega)).1⟩
      · unfold mX3_draw
        rw [e, Option.bind_some, Option.bind_some, show F = (F - 1) + 1 by omega, loop_out]
        unfold mX3_draw_b49
        simp only []
        rw [nI_s1 (by omega), if_neg (by rw [nI_lt0 (by omega)]; exact id), e1, if_pos (show nI 1 ≤ (1 : Int32) by decide +kernel), if_pos (show nI 1 ≤ (1 : Int32) by decide +kernel), ← e1]
      · refine (lo_uniq h24 m0.2 (fun i hi => ?_)).symm
        cases q : S.testBit i with
        | false => rfl
        | true =>
          have a := good_lx g hi m0.1
          rcases e3.2.2.2.2.1 i ⟨by omega, q⟩ with d | d
          · omega
          · exact (lx_asym a d).elim
      · rcases e3.2.2.2.2.1 q ⟨hq, hSq⟩ with d | d
        · exact d
        · rcases e3.2.2.2.1 q ⟨hq, hSq⟩ with f | f
          · exact f
          · exact (lx_asym d f).elim
    · have mt := e3.2.1 (n - 1) (by omega)
      obtain ⟨r, er, k1, m, hh, k2, k3, k4, k5⟩ := upp_all (F := F) (s := n - 1) (top := h0 (n - 1)) (h0 := h0) (t := t) hF g hP (show S < 2 ^ 31 by omega) (by omega) (by omega) (by omega) mt.1 rfl mt.2 (fun q hq hSq => e3.2.2.2.1 q ⟨hq, hSq⟩) (by rw [e1, show n - 1 + 1 = n by omega]) (fun j hj => (e2 j (by omega)).1)
      have e3' : CHAIN (cI X) (cI Y) (fun q => q < N ∧ S.testBit q = true) h0 (n - 1 + 1) := by rw [show n - 1 + 1 = n by omega]; exact e3
      obtain ⟨m2, hu⟩ := hull_2 g hSN (by omega) e3' rfl k4 k5
      have ed : mX3_draw F (nI S) c0 (nI N) row xs ys = some (r.1 - (1 : Int32), r.2) := by
        unfold mX3_draw
        rw [show n - 1 + 1 = n by omega, ← e1] at er
        rw [e, Option.bind_some, Option.bind_some, er]
      refine ⟨(r.1 - (1 : Int32), r.2), _, _, ed, hu, ?_, fun j hj => ?_⟩
      · show r.1 - 1 = _
        rw [k2, nI_s1 (by omega)]
      · show r.2 j = nI (if j ≤ n - 1 then h0 j else hh (j - (n - 1)))
        by_cases c2 : j ≤ n - 1
        · rw [if_pos c2]
          exact k1 j (by omega)
        · rw [if_neg c2]
          have := (k3 (j - (n - 1)) (by omega)).1
          rw [show n - 1 + (j - (n - 1)) = j by omega] at this
          exact this
