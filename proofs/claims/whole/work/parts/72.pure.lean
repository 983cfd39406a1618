/-! ===== PURE 63: the class turns to a corner ===== -/
def cI (X : Nat → Nat) (i : Nat) : Int := (X i : Int)
theorem nI_ofI (n : Nat) : nI n = Int32.ofInt (n : Int) := Int32.ofInt_eq_ofNat.symm
theorem mul_bd {u v : Int} (h1 : -1023 ≤ u) (h2 : u ≤ 1023) (h3 : -1023 ≤ v) (h4 : v ≤ 1023) : -1046529 ≤ u * v ∧ u * v ≤ 1046529 := by
  have a := Int.mul_nonneg (show 0 ≤ 1023 - u by omega) (show 0 ≤ 1023 + v by omega)
  have b := Int.mul_nonneg (show 0 ≤ 1023 + u by omega) (show 0 ≤ 1023 - v by omega)
  have c := Int.mul_nonneg (show 0 ≤ 1023 - u by omega) (show 0 ≤ 1023 - v by omega)
  have d := Int.mul_nonneg (show 0 ≤ 1023 + u by omega) (show 0 ≤ 1023 + v by omega)
  simp only [Int.sub_mul, Int.mul_sub, Int.add_mul, Int.mul_add] at a b c d
  omega
theorem trn_bd {N a b c : Nat} {X Y : Nat → Nat} (hI : IN N X Y) (ha : a < N) (hb : b < N) (hc : c < N) : -2093058 ≤ trn (cI X) (cI Y) a b c ∧ trn (cI X) (cI Y) a b c ≤ 2093058 := by
  have ⟨a1, a2⟩ := hI a ha
  have ⟨b1, b2⟩ := hI b hb
  have ⟨c1, c2⟩ := hI c hc
  have p := mul_bd (u := cI X b - cI X a) (v := cI Y c - cI Y a) (by unfold cI; omega) (by unfold cI; omega) (by unfold cI; omega) (by unfold cI; omega)
  have q := mul_bd (u := cI X c - cI X a) (v := cI Y b - cI Y a) (by unfold cI; omega) (by unfold cI; omega) (by unfold cI; omega) (by unfold cI; omega)
  unfold trn crs
  omega
theorem ofI_pos {z : Int} (h1 : -2093058 ≤ z) (h2 : z ≤ 2093058) : (0 < Int32.ofInt z) = (0 < z) := by
  rw [tI_lt, i_0, Int32.toInt_ofInt_of_le (by omega) (by omega)]
theorem ofI_neg {z : Int} (h1 : -2093058 ≤ z) (h2 : z ≤ 2093058) : (Int32.ofInt z < 0) = (z < 0) := by
  rw [tI_lt, i_0, Int32.toInt_ofInt_of_le (by omega) (by omega)]
theorem ofI_0 {z : Int} (h1 : -2093058 ≤ z) (h2 : z ≤ 2093058) : (Int32.ofInt z = 0) = (z = 0) := by
  rw [tI_eq, i_0, Int32.toInt_ofInt_of_le (by omega) (by omega)]
theorem cross3 {F N a b c : Nat} {X Y : Nat → Nat} {xs ys : Nat → Int32} (hN : N ≤ 24) (hP : PT N X Y xs ys) (ha : a < N) (hb : b < N) (hc : c < N) : mX3_cross F (nI a) (nI b) (nI c) xs ys = some (Int32.ofInt (trn (cI X) (cI Y) a b c)) := by
  have ⟨a1, a2⟩ := hP a ha
  have ⟨b1, b2⟩ := hP b hb
  have ⟨c1, c2⟩ := hP c hc
  have e : trn (cI X) (cI Y) a b c = ((X b : Int) - (X a : Int)) * ((Y c : Int) - (Y b : Int)) - ((Y b : Int) - (Y a : Int)) * ((X c : Int) - (X b : Int)) := by
    rw [Int.mul_comm ((Y b : Int) - (Y a : Int))]
    exact (trn_e1 (cI X) (cI Y) a b c).symm
  unfold mX3_cross
  rw [e, Int32.ofInt_sub, Int32.ofInt_mul, Int32.ofInt_mul, Int32.ofInt_sub, Int32.ofInt_sub, Int32.ofInt_sub, Int32.ofInt_sub, ← nI_ofI, ← nI_ofI, ← nI_ofI, ← nI_ofI, ← nI_ofI, ← nI_ofI,
    rdI_n (by omega) (by omega), Option.bind_some, rdI_n (by omega) (by omega), Option.bind_some, rdI_n (by omega) (by omega), Option.bind_some, rdI_n (by omega) (by omega), Option.bind_some, Option.bind_some, rdI_n (by omega) (by omega), Option.bind_some, rdI_n (by omega) (by omega), Option.bind_some, Option.bind_some, a1, a2, b1, b2, c1, c2]
/-- what is taken back -/
theorem pop_loop {F N n p s : Nat} {X Y : Nat → Nat} {X' Y' : Nat → Int} {P : Nat → Prop} {h : Nat → Nat} {row xs ys : Nat → Int32} (hN : N ≤ 24) (hP : PT N X Y xs ys) (hI : IN N X Y) (ht : ∀ a b c, trn X' Y' a b c = trn (cI X) (cI Y) a b c)
    (H : CHAIN X' Y' P h n) (hh : ∀ i, i < n → row (s + i) = nI (h i) ∧ h i < N) (hs : s + n ≤ 48) (hp : p < N) (hlt : ∀ q, P q → lx X' Y' q p) (htot : ∀ a b, P a → P b → a ≠ b → lx X' Y' a b ∨ lx X' Y' b a) :
    ∀ k f, k < f → POP X' Y' P h n p k → ∃ k', POP X' Y' P h n p k' ∧ (k' = 0 ∨ 0 < trn X' Y' (h (k' - 1)) (h k') p) ∧ loop (fun s0 => mX3_turnTo_b0 F (nI p) (nI (s + 2)) row xs ys s0) f (nI (s + k + 1)) = some (nI (s + k' + 1))
  | 0, f, hf, hk => by
    refine ⟨0, hk, Or.inl rfl, ?_⟩
    rw [show f = (f - 1) + 1 by omega, loop_out]
    unfold mX3_turnTo_b0
    rw [if_pos (show nI (s + 0 + 1) < nI (s + 2) by rw [nI_ltE (by omega) (by omega)]; omega)]
  | k + 1, f, hf, hk => by
    have hkn := hk.1
    have ⟨a1, a2⟩ := hh k (by omega)
    have ⟨b1, b2⟩ := hh (k + 1) hkn
    have bd := trn_bd hI a2 b2 hp
    have body : mX3_turnTo_b0 F (nI p) (nI (s + 2)) row xs ys (nI (s + (k + 1) + 1)) = if 0 < Int32.ofInt (trn (cI X) (cI Y) (h k) (h (k + 1)) p) then (some (.inr (nI (s + (k + 1) + 1)))) else some (.inl (nI (s + k + 1))) := by
      unfold mX3_turnTo_b0
      rw [if_neg (show ¬ nI (s + (k + 1) + 1) < nI (s + 2) by rw [nI_ltE (by omega) (by omega)]; omega), if_neg (show ¬ nI (s + (k + 1) + 1) < (2 : Int32) by rw [c2, nI_ltE (by omega) (by omega)]; omega), c2, pk_sub (by omega), nI_s1 (by omega),
        show s + (k + 1) + 1 - 2 = s + k by omega, show s + (k + 1) + 1 - 1 = s + (k + 1) by omega, rdI_n (by omega) (by omega), Option.bind_some, rdI_n (by omega) (by omega), Option.bind_some, a1, b1, cross3 hN hP a2 b2 hp, Option.bind_some, Option.bind_some]
      rfl
    have kp := ofI_pos bd.1 bd.2
    by_cases c : 0 < trn (cI X) (cI Y) (h k) (h (k + 1)) p
    · rw [if_pos (by rw [kp]; exact c)] at body
      refine ⟨k + 1, hk, Or.inr ?_, ?_⟩
      · rw [Nat.add_sub_cancel, ht]
        exact c
      · rw [show f = (f - 1) + 1 by omega, loop_out body]
    · rw [if_neg (by rw [kp]; exact c)] at body
      obtain ⟨k', g1, g2, g3⟩ := pop_loop hN hP hI ht H hh hs hp hlt htot k (f - 1) (by omega) (pop_step H hlt htot hk (by rw [ht]; omega))
      exact ⟨k', g1, g2, by rw [show f = (f - 1) + 1 by omega, loop_succ body, g3]⟩
/-- a corner is put -/
theorem turnTo3 {F N n p s : Nat} {X Y : Nat → Nat} {X' Y' : Nat → Int} {P : Nat → Prop} {h : Nat → Nat} {row xs ys : Nat → Int32} (hF : 1000 ≤ F) (hN : N ≤ 24) (hP : PT N X Y xs ys) (hI : IN N X Y) (ht : ∀ a b c, trn X' Y' a b c = trn (cI X) (cI Y) a b c)
    (H : CHAIN X' Y' P h n) (hh : ∀ i, i < n → row (s + i) = nI (h i) ∧ h i < N) (hs : s + n ≤ 48) (hp : p < N) (hlt : ∀ q, P q → lx X' Y' q p) (htot : ∀ a b, P a → P b → a ≠ b → lx X' Y' a b ∨ lx X' Y' b a) :
    ∃ k, k < n ∧ mX3_turnTo F (nI p) (nI (s + 2)) (nI (s + n)) row xs ys = some (nI (s + (k + 2)), upd row (s + (k + 1)) (nI p)) ∧ CHAIN X' Y' (fun q => P q ∨ q = p) (fun i => if i ≤ k then h i else p) (k + 2) := by
  have n1 := H.1
  obtain ⟨k, g1, g2, g3⟩ := pop_loop (F := F) hN hP hI ht H hh hs hp hlt htot (n - 1) F (by omega) (pop_0 H)
  rw [show s + (n - 1) + 1 = s + n by omega] at g3
  have kn := g1.1
  refine ⟨k, kn, ?_, chain_push H hlt htot g1 g2⟩
  unfold mX3_turnTo
  rw [g3, Option.bind_some, if_neg (show ¬ (49 : Int32) ≤ nI (s + k + 1) by rw [show (49 : Int32) = nI 49 from rfl, nI_leE (by omega) (by omega)]; omega), wrI_n (by omega) (by omega), Option.bind_some, Option.bind_some, nI_1]
  rfl
/-- chains are short -/
theorem chain_le {X Y : Nat → Int} {P : Nat → Prop} {h : Nat → Nat} {n N : Nat} (H : CHAIN X Y P h n) (hP : ∀ q, P q → q < N) : n ≤ N :=
  pigeon (f := h) (fun i hi => hP _ (H.2.1 i hi)) (fun i j hij hj e => by
    have := chain_lt H j hij hj
    rw [e] at this
    exact lx_irr this)
