/-! ===== PURE 21: the number of ones ===== -/
def t1 (M x : Nat) : Nat := x - ((x / 2) &&& M)
def t2 (M x : Nat) : Nat := (x &&& M) + ((x / 4) &&& M)
def t3 (M x : Nat) : Nat := (x + x / 16) &&& M
theorem and_split (x L H : Nat) (hL : L < 256) : x &&& (L + 256 * H) = ((x % 256) &&& L) + 256 * ((x / 256) &&& H) := by
  have h1 : (x &&& (L + 256 * H)) % 2 ^ 8 = (x % 2 ^ 8) &&& ((L + 256 * H) % 2 ^ 8) := Nat.and_mod_two_pow
  have h2 : (x &&& (L + 256 * H)) / 2 ^ 8 = (x / 2 ^ 8) &&& ((L + 256 * H) / 2 ^ 8) := Nat.and_div_two_pow
  have e1 : (L + 256 * H) % 2 ^ 8 = L := by omega
  have e2 : (L + 256 * H) / 2 ^ 8 = H := by omega
  rw [e1] at h1
  rw [e2] at h2
  have e3 : (2 : Nat) ^ 8 = 256 := by decide
  rw [e3] at h1 h2
  rw [← h1, ← h2]
  omega
theorem b55 : ∀ (a : Fin 256) (c : Fin 2), ((a.val / 2 + 128 * c.val) &&& 85) = ((a.val / 2) &&& 85) := by decide +kernel
theorem b33 : ∀ (a : Fin 256) (c : Fin 4), ((a.val / 4 + 64 * c.val) &&& 51) = ((a.val / 4) &&& 51) := by decide +kernel
theorem b0f : ∀ (a : Fin 69) (c : Fin 5), ((a.val + a.val / 16 + 16 * c.val) &&& 15) = ((a.val + a.val / 16) &&& 15) := by decide +kernel
theorem b55le : ∀ (a : Fin 256), ((a.val / 2) &&& 85) ≤ a.val := by decide +kernel
theorem t1_split {a h M : Nat} (ha : a < 256) : t1 (85 + 256 * M) (a + 256 * h) = t1 85 a + 256 * t1 M h := by
  unfold t1
  have b := b55 ⟨a, ha⟩ ⟨h % 2, Nat.mod_lt _ (by omega)⟩
  have l := b55le ⟨a, ha⟩
  have l2 : (h / 2) &&& M ≤ h := Nat.le_trans Nat.and_le_left (Nat.div_le_self _ _)
  simp only [] at b l
  rw [and_split _ _ _ (by omega), show (a + 256 * h) / 2 % 256 = a / 2 + 128 * (h % 2) by omega, show (a + 256 * h) / 2 / 256 = h / 2 by omega, b]
  omega
theorem t2_split {a h M : Nat} (ha : a < 256) : t2 (51 + 256 * M) (a + 256 * h) = t2 51 a + 256 * t2 M h := by
  unfold t2
  have b := b33 ⟨a, ha⟩ ⟨h % 4, Nat.mod_lt _ (by omega)⟩
  simp only [] at b
  rw [and_split _ _ _ (by omega), and_split _ _ _ (by omega), show (a + 256 * h) / 4 % 256 = a / 4 + 64 * (h % 4) by omega, show (a + 256 * h) / 4 / 256 = h / 4 by omega, b,
    show (a + 256 * h) % 256 = a by omega, show (a + 256 * h) / 256 = h by omega]
  omega
theorem t3_split {a h M : Nat} (ha : a ≤ 68) (hh : h % 16 ≤ 4) : t3 (15 + 256 * M) (a + 256 * h) = t3 15 a + 256 * t3 M h := by
  unfold t3
  have b := b0f ⟨a, by omega⟩ ⟨h % 16, by omega⟩
  simp only [] at b
  have e : a + 256 * h + (a + 256 * h) / 16 = (a + a / 16 + 16 * (h % 16)) + 256 * (h + h / 16) := by omega
  rw [e, and_split _ _ _ (by omega), show ((a + a / 16 + 16 * (h % 16)) + 256 * (h + h / 16)) % 256 = a + a / 16 + 16 * (h % 16) by omega, show ((a + a / 16 + 16 * (h % 16)) + 256 * (h + h / 16)) / 256 = h + h / 16 by omega, b]
theorem byte1 : ∀ a : Fin 256, t1 85 a.val < 256 ∧ t2 51 (t1 85 a.val) ≤ 68 ∧ t2 51 (t1 85 a.val) % 16 ≤ 4 ∧ t3 15 (t2 51 (t1 85 a.val)) = cntB (Nat.testBit a.val) 8 := by decide +kernel
theorem cnt_split {p : Nat → Bool} {n : Nat} : ∀ k, cntB p (n + k) = cntB p n + cntB (fun i => p (n + i)) k
  | 0 => rfl
  | k + 1 => by
    show cntB p (n + k + 1) = _
    simp only [cntB]
    rw [cnt_split k]
    omega
theorem cnt_byte (m : Nat) (k : Nat) : cntB m.testBit (8 + k) = cntB (m % 256).testBit 8 + cntB (m / 256).testBit k := by
  rw [cnt_split]
  have e1 : cntB m.testBit 8 = cntB (m % 256).testBit 8 := cntB_congr (fun i hi => by
    rw [show (256 : Nat) = 2 ^ 8 by decide, Nat.testBit_mod_two_pow]
    simp [hi])
  have e2 : cntB (fun i => m.testBit (8 + i)) k = cntB (m / 256).testBit k := cntB_congr (fun i hi => by
    rw [show (256 : Nat) = 2 ^ 8 by decide, Nat.testBit_div_two_pow]
    rw [Nat.add_comm])
  rw [e1, e2]
theorem popc {m : Nat} (hm : m < 2 ^ 24) : t3 252645135 (t2 858993459 (t1 1431655765 m)) = cntB (m % 256).testBit 8 + 256 * cntB (m / 256 % 256).testBit 8 + 65536 * cntB (m / 65536).testBit 8 := by
  obtain ⟨a, b, c, ha, hb, hc, e⟩ : ∃ a b c, a < 256 ∧ b < 256 ∧ c < 256 ∧ m = a + 256 * (b + 256 * (c + 256 * 0)) := ⟨m % 256, m / 256 % 256, m / 65536, by omega, by omega, by omega, by omega⟩
  have ea : m % 256 = a := by omega
  have eb : m / 256 % 256 = b := by omega
  have ec : m / 65536 = c := by omega
  have ⟨a1, a2, a3, a4⟩ := byte1 ⟨a, ha⟩
  have ⟨b1, b2, b3, b4⟩ := byte1 ⟨b, hb⟩
  have ⟨c1', c2', c3', c4'⟩ := byte1 ⟨c, hc⟩
  simp only [] at a1 a2 a3 a4 b1 b2 b3 b4 c1' c2' c3' c4'
  have z1 : t1 85 0 = 0 := by decide
  have z2 : t2 51 0 = 0 := by decide
  have z3 : t3 15 0 = 0 := by decide
  rw [ea, eb, ec, e, show (1431655765 : Nat) = 85 + 256 * (85 + 256 * (85 + 256 * 85)) by decide, show (858993459 : Nat) = 51 + 256 * (51 + 256 * (51 + 256 * 51)) by decide, show (252645135 : Nat) = 15 + 256 * (15 + 256 * (15 + 256 * 15)) by decide]
  rw [t1_split ha, t1_split hb, t1_split hc, z1]
  rw [t2_split a1, t2_split b1, t2_split c1', z2]
  have q2 : (t2 51 (t1 85 c) + 256 * 0) % 16 ≤ 4 := by omega
  have q1 : (t2 51 (t1 85 b) + 256 * (t2 51 (t1 85 c) + 256 * 0)) % 16 ≤ 4 := by omega
  rw [t3_split a2 q1, t3_split b2 q2, t3_split c2' (by decide), z3, a4, b4, c4']
  omega
theorem ushN {m k : Nat} (hm : m < 2 ^ 31) (s : Int32) (hs : ((s.toUInt32 &&& Int32.toUInt32 31).toBitVec % 32).toNat = k) : ush (nI m) s = nI (m / 2 ^ k) := pk_ushrN (by omega) s k hs
theorem bitCnt_n {m : Nat} (hm : m < 2 ^ 24) : bitCnt (nI m) = nI (cntB m.testBit 24) := by
  have s1 : ush (nI m) 1 = nI (m / 2) := ushN (k := 1) (by omega) 1 (by decide +kernel)
  have l1 : (m / 2) &&& 1431655765 ≤ m := Nat.le_trans Nat.and_le_left (Nat.div_le_self _ _)
  have r1 : bc1 (nI m) = nI (t1 1431655765 m) := by
    unfold bc1 t1
    rw [s1, show (1431655765 : Int32) = nI 1431655765 from rfl, nI_and (by omega) (by omega), pk_sub l1]
  have q1 : t1 1431655765 m ≤ m := Nat.sub_le _ _
  generalize hx : t1 1431655765 m = x at r1 q1
  have s2 : ush (nI x) 2 = nI (x / 4) := ushN (k := 2) (by omega) 2 (by decide +kernel)
  have l2 : x &&& 858993459 ≤ x := Nat.and_le_left
  have l3 : (x / 4) &&& 858993459 ≤ x / 4 := Nat.and_le_left
  have r2 : bc2 (nI x) = nI (t2 858993459 x) := by
    unfold bc2 t2
    rw [s2, show (858993459 : Int32) = nI 858993459 from rfl, nI_and (by omega) (by omega), nI_and (by omega) (by omega), nI_add]
  have q2 : t2 858993459 x ≤ x + x / 4 := Nat.add_le_add l2 l3
  generalize hy : t2 858993459 x = y at r2 q2
  have s3 : ush (nI y) 4 = nI (y / 16) := ushN (k := 4) (by omega) 4 (by decide +kernel)
  have r3 : bc3 (nI y) = nI (t3 252645135 y) := by
    unfold bc3 t3
    rw [s3, show (252645135 : Int32) = nI 252645135 from rfl, nI_add, nI_and (by omega) (by omega)]
  have hz : t3 252645135 y = cntB (m % 256).testBit 8 + 256 * cntB (m / 256 % 256).testBit 8 + 65536 * cntB (m / 65536).testBit 8 := by rw [← hy, ← hx]; exact popc hm
  have pa := cntB_le (m % 256).testBit 8
  have pb := cntB_le (m / 256 % 256).testBit 8
  have pc := cntB_le (m / 65536).testBit 8
  have tot : cntB m.testBit 24 = cntB (m % 256).testBit 8 + cntB (m / 256 % 256).testBit 8 + cntB (m / 65536).testBit 8 := by
    have e1 := cnt_byte m 16
    have e2 := cnt_byte (m / 256) 8
    have e3 : m / 256 / 256 = m / 65536 := by omega
    rw [e3] at e2
    show cntB m.testBit (8 + 16) = _
    rw [e1]
    show _ + cntB (m / 256).testBit (8 + 8) = _
    rw [e2]
    omega
  generalize cntB (m % 256).testBit 8 = A at hz tot pa
  generalize cntB (m / 256 % 256).testBit 8 = B at hz tot pb
  generalize cntB (m / 65536).testBit 8 = C at hz tot pc
  have s4 : ush (nI (A + 256 * B + 65536 * C)) 8 = nI ((A + 256 * B + 65536 * C) / 256) := ushN (k := 8) (by omega) 8 (by decide +kernel)
  have r4 : bc4 (nI (A + 256 * B + 65536 * C)) = nI ((A + B) + 256 * (B + C) + 65536 * C) := by
    unfold bc4
    rw [s4, nI_add]
    congr 1
    omega
  have s5 : ush (nI ((A + B) + 256 * (B + C) + 65536 * C)) 16 = nI (((A + B) + 256 * (B + C) + 65536 * C) / 65536) := ushN (k := 16) (by omega) 16 (by decide +kernel)
  have r5 : bc5 (nI ((A + B) + 256 * (B + C) + 65536 * C)) = nI ((A + B + C) + 256 * (B + C) + 65536 * C) := by
    unfold bc5
    rw [s5, nI_add]
    congr 1
    omega
  unfold bitCnt
  rw [r1, r2, r3, hz, r4, r5, pk_andN (by omega) 6 (by decide +kernel), tot]
  congr 1
  omega
