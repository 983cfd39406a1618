/-! ===== PURE 2: sets as masks ===== -/
theorem nI_or {a b : Nat} (ha : a < 2 ^ 31) (hb : b < 2 ^ 31) : nI a ||| nI b = nI (a ||| b) := by
  apply Int32.toBitVec_inj.mp
  apply BitVec.eq_of_toNat_eq
  have hlt : a ||| b < 2 ^ 31 := Nat.or_lt_two_pow ha hb
  rw [Int32.toBitVec_or, BitVec.toNat_or, pk_tn (by omega), pk_tn (by omega), pk_tn (by omega)]
theorem nI_and {a b : Nat} (ha : a < 2 ^ 31) (hb : b < 2 ^ 31) : nI a &&& nI b = nI (a &&& b) := by
  apply Int32.toBitVec_inj.mp
  apply BitVec.eq_of_toNat_eq
  have hlt : a &&& b ≤ a := Nat.and_le_left
  rw [Int32.toBitVec_and, BitVec.toNat_and, pk_tn (by omega), pk_tn (by omega), pk_tn (by omega)]
theorem sh31 : ∀ k : Fin 31, ((nI k.val &&& 31).toBitVec.smod 32).toNat = k.val := by decide +kernel
theorem nI_bit {k : Nat} (hk : k < 31) : (1 : Int32) <<< (nI k &&& 31) = nI (2 ^ k) := by
  have h := pk_shlN (n := 1) (nI k &&& 31) k (sh31 ⟨k, hk⟩) (by
    have : 2 ^ k ≤ 2 ^ 30 := Nat.pow_le_pow_right (by omega) (by omega)
    omega)
  rw [Nat.one_mul] at h
  exact h
theorem nI_shr {m k : Nat} (hm : m < 2 ^ 31) (hk : k < 31) : nI m >>> (nI k &&& 31) = nI (m / 2 ^ k) := pk_shrN hm _ k (sh31 ⟨k, hk⟩)
theorem has_1 {m k : Nat} (hm : m < 2 ^ 31) (hk : k < 31) : (nI m >>> (nI k &&& 31)) &&& (1 : Int32) = if m.testBit k then 1 else 0 := by
  have hd : m / 2 ^ k ≤ m := Nat.div_le_self _ _
  rw [nI_shr hm hk, show (1 : Int32) = nI 1 from rfl, nI_and (by omega) (by omega), Nat.and_one_is_mod, Nat.testBit_eq_decide_div_mod_eq]
  rcases Nat.mod_two_eq_zero_or_one (m / 2 ^ k) with h | h <;> rw [h] <;> simp <;> rfl
theorem has6 {m k : Nat} (F : Nat) (hm : m < 2 ^ 31) (hk : k < 31) : mX6_has F (nI m) (nI k) = some (if m.testBit k then 1 else 0) := by
  unfold mX6_has
  rw [has_1 hm hk]
  cases m.testBit k <;> rfl
theorem has9 {m k : Nat} (F : Nat) (hm : m < 2 ^ 31) (hk : k < 31) : mX9_has F (nI m) (nI k) = some (if m.testBit k then 1 else 0) := by
  unfold mX9_has
  rw [has_1 hm hk]
  cases m.testBit k <;> rfl
