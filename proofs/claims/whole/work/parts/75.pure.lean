/-! ===== PURE 66: the outline as the reference lays it ===== -/
theorem turn9 {F N a b c : Nat} {X Y : Nat → Nat} {xs ys : Nat → Int32} (hN : N ≤ 24) (hP : PT N X Y xs ys) (ha : a < N) (hb : b < N) (hc : c < N) : mX9_turn F (nI a) (nI b) (nI c) xs ys = some (Int32.ofInt (trn (cI X) (cI Y) a b c)) := by
  have ⟨a1, a2⟩ := hP a ha
  have ⟨b1, b2⟩ := hP b hb
  have ⟨c1, c2⟩ := hP c hc
  have e : trn (cI X) (cI Y) a b c = ((X b : Int) - (X a : Int)) * ((Y c : Int) - (Y a : Int)) - ((Y b : Int) - (Y a : Int)) * ((X c : Int) - (X a : Int)) := by
    rw [Int.mul_comm ((Y b : Int) - (Y a : Int))]
    rfl
  unfold mX9_turn
  rw [e, Int32.ofInt_sub, Int32.ofInt_mul, Int32.ofInt_mul, Int32.ofInt_sub, Int32.ofInt_sub, Int32.ofInt_sub, Int32.ofInt_sub, ← nI_ofI, ← nI_ofI, ← nI_ofI, ← nI_ofI, ← nI_ofI, ← nI_ofI,
    rdI_n (by omega) (by omega), Option.bind_some, rdI_n (by omega) (by omega), Option.bind_some, rdI_n (by omega) (by omega), Option.bind_some, rdI_n (by omega) (by omega), Option.bind_some, rdI_n (by omega) (by omega), Option.bind_some, Option.bind_some, rdI_n (by omega) (by omega), Option.bind_some, Option.bind_some, a1, a2, b1, b2, c1, c2]
theorem dst_sq (a b : Nat) : ((dst a b * dst a b : Nat) : Int) = ((b : Int) - (a : Int)) * ((b : Int) - (a : Int)) := by
  rw [Int.natCast_mul]
  unfold dst
  by_cases h : a ≤ b
  · rw [if_pos h, show ((b - a : Nat) : Int) = (b : Int) - (a : Int) by omega]
  · rw [if_neg h, show ((a - b : Nat) : Int) = -((b : Int) - (a : Int)) by omega, Int.neg_mul_neg]
theorem ap_sq (X Y : Nat → Nat) (a b : Nat) : ((ap X Y a b : Nat) : Int) = sqI (cI X) (cI Y) a b := by
  unfold ap sqI cI
  rw [Int.natCast_add, dst_sq, dst_sq]
theorem next50 {F N a c k : Nat} {X Y : Nat → Nat} {xs ys : Nat → Int32} (hN : N ≤ 24) (hP : PT N X Y xs ys) (hI : IN N X Y) (ha : a < N) (hc : c < N) (hk : k < N) :
    mX9_nextCorner_j50 F (nI a) xs ys (nI c) (nI k) (Int32.ofInt (trn (cI X) (cI Y) a c k)) = some (.inl (if trn (cI X) (cI Y) a c k < 0 ∨ (trn (cI X) (cI Y) a c k = 0 ∧ sqI (cI X) (cI Y) a c < sqI (cI X) (cI Y) a k) then nI k else nI c, nI (k + 1))) := by
  have bd := trn_bd hI ha hc hk
  have b1 := ap_lt (hI a ha).1 (hI k hk).1 (hI a ha).2 (hI k hk).2
  have b2 := ap_lt (hI a ha).1 (hI c hc).1 (hI a ha).2 (hI c hc).2
  have s1 := ap_sq X Y a k
  have s2 := ap_sq X Y a c
  unfold mX9_nextCorner_j50
  rw [nI_1]
  by_cases q1 : trn (cI X) (cI Y) a c k < 0
  · rw [if_pos (by rw [ofI_neg bd.1 bd.2]; exact q1), if_pos (Or.inl q1)]
  · rw [if_neg (by rw [ofI_neg bd.1 bd.2]; exact q1)]
    by_cases q2 : trn (cI X) (cI Y) a c k = 0
    · rw [if_pos (by rw [ofI_0 bd.1 bd.2]; exact q2), apart9 hN hP hI ha hk, Option.bind_some, apart9 hN hP hI ha hc, Option.bind_some]
      by_cases q3 : sqI (cI X) (cI Y) a c < sqI (cI X) (cI Y) a k
      · rw [if_neg (by rw [nI_leE (by omega) (by omega)]; omega), if_pos (Or.inr ⟨q2, q3⟩)]
      · rw [if_pos (by rw [nI_leE (by omega) (by omega)]; omega), if_neg (fun h => by rcases h with h | h; exact q1 h; exact q3 h.2)]
    · rw [if_neg (by rw [ofI_0 bd.1 bd.2]; exact q2), if_neg (fun h => by rcases h with h | h; exact q1 h; exact q2 h.1)]
theorem corn9 {F N S a b : Nat} {X Y : Nat → Nat} {xs ys : Nat → Int32} (hF : 1000 ≤ F) (hN : N ≤ 24) (hP : PT N X Y xs ys) (hI : IN N X Y) (hS : S < 2 ^ 31) (ha : a < N) (hb : b < N) (hbS : S.testBit b = true) (hE : EDGE X Y N S a b) :
    mX9_nextCorner F (nI S) (nI a) (nI N) xs ys = some (nI b) := by
  obtain ⟨v, e, g⟩ := lpI (body := fun s5 : Int32 × Int32 => mX9_nextCorner_b5 F (nI S) (nI a) (nI N) xs ys s5.1 s5.2) (F := F) (fun k (v : Int32) => (v, nI k)) (fun k v => (k ≤ b ∧ (v = -1 ∨ ∃ c, c < N ∧ S.testBit c = true ∧ c ≠ a ∧ c ≠ b ∧ v = nI c)) ∨ (b < k ∧ v = nI b)) 0 N (fun v => v) (-1 : Int32) (by omega) (s0 := ((-1 : Int32), (0 : Int32))) rfl
    (Or.inl ⟨Nat.zero_le _, Or.inl rfl⟩) (fun k v _ hk hI2 => by
      show ∃ y, mX9_nextCorner_b5 F (nI S) (nI a) (nI N) xs ys v (nI k) = some (.inl (y, nI (k + 1))) ∧ _
      unfold mX9_nextCorner_b5
      rw [if_neg (show ¬ nI N ≤ nI k by rw [nI_leE (by omega) (by omega)]; omega), has9b F hS (by omega), Option.bind_some]
      by_cases c1 : S.testBit k = true
      · rw [c1, if_neg (by rw [k0T]; exact id)]
        by_cases c2 : k = a
        · rw [if_pos (by rw [c2]), nI_1]
          refine ⟨v, rfl, ?_⟩
          have := hE.1
          rcases hI2 with ⟨h1, h2⟩ | ⟨h1, h2⟩
          · exact Or.inl ⟨by omega, h2⟩
          · exact Or.inr ⟨by omega, h2⟩
        · rw [if_neg (by rw [nI_eqE (by omega) (by omega)]; exact c2)]
          rcases hI2 with ⟨h1, h2⟩ | ⟨h1, h2⟩
          · rcases h2 with h2 | ⟨c, d1, d2, d3, d4, d5⟩
            · rw [if_pos h2]
              unfold mX9_nextCorner_j50
              rw [if_pos (by decide +kernel), nI_1]
              refine ⟨nI k, rfl, ?_⟩
              by_cases c3 : k = b
              · exact Or.inr ⟨by omega, by rw [c3]⟩
              · exact Or.inl ⟨by omega, Or.inr ⟨k, hk, c1, c2, c3, rfl⟩⟩
            · rw [d5, if_neg (by rw [nI_m1 (by omega)]; exact id), turn9 hN hP ha d1 hk, Option.bind_some, next50 hN hP hI ha d1 hk]
              refine ⟨_, rfl, ?_⟩
              by_cases c3 : k = b
              · refine Or.inr ⟨by omega, ?_⟩
                have t := trn_swap (cI X) (cI Y) a b c
                rw [c3, if_pos]
                rcases hE.2 c d1 d2 d3 d4 with f | f
                · exact Or.inl (by omega)
                · exact Or.inr ⟨by omega, f.2⟩
              · refine Or.inl ⟨by omega, Or.inr ?_⟩
                by_cases c4 : trn (cI X) (cI Y) a c k < 0 ∨ (trn (cI X) (cI Y) a c k = 0 ∧ sqI (cI X) (cI Y) a c < sqI (cI X) (cI Y) a k)
                · rw [if_pos c4]
                  exact ⟨k, hk, c1, c2, c3, rfl⟩
                · rw [if_neg c4]
                  exact ⟨c, d1, d2, d3, d4, rfl⟩
          · rw [h2, if_neg (by rw [nI_m1 (by omega)]; exact id), turn9 hN hP ha hb hk, Option.bind_some, next50 hN hP hI ha hb hk]
            refine ⟨_, rfl, Or.inr ⟨by omega, ?_⟩⟩
            rw [if_neg]
            intro h
            rcases hE.2 k hk c1 c2 (by omega) with f | f
            · rcases h with h | h <;> omega
            · rcases h with h | h <;> omega
      · rw [Bool.not_eq_true _ |>.mp c1, if_pos (by rw [k0F]; trivial), nI_1]
        refine ⟨v, rfl, ?_⟩
        have : k ≠ b := fun h => c1 (by rw [h]; exact hbS)
        rcases hI2 with ⟨h1, h2⟩ | ⟨h1, h2⟩
        · exact Or.inl ⟨by omega, h2⟩
        · exact Or.inr ⟨by omega, h2⟩) (fun v _ => by
      show mX9_nextCorner_b5 F (nI S) (nI a) (nI N) xs ys v (nI N) = _
      unfold mX9_nextCorner_b5
      rw [if_pos (show nI N ≤ nI N by rw [nI_leE (by omega) (by omega)]; omega)]) (by omega)
  have ev : v = nI b := by
    rcases g with ⟨h1, _⟩ | ⟨_, h2⟩
    · omega
    · exact h2
  unfold mX9_nextCorner
  rw [e, ev]
/-- the reference's outline -/
theorem lays9o {F N S len : Nat} {X Y W : Nat → Nat} {C : Nat → Nat} {xs ys : Nat → Int32} (hF : 1000 ≤ F) (g : GOOD N X Y W) (hP : PT N X Y xs ys) (hSN : S < 2 ^ N) (h0 : S ≠ 0) (H : HULL X Y N S C len) (co : Int32) (arr : Nat → Int32) :
    ∃ r, mX9_laysOutline F (nI S) (nI N) co arr xs ys = some r ∧ r.1 = nI len ∧ ∀ j, j < len → r.2 j = nI (C j) := by
  have hN := g.1
  have h24 : S < 2 ^ 24 := Nat.lt_of_lt_of_le hSN (Nat.pow_le_pow_right (by omega) hN)
  obtain ⟨l1, l24, mem, c0, cl, one, ed, ne0⟩ := H
  have m0 := mem 0 (by omega)
  unfold mX9_laysOutline
  rw [least9s hF h24 h0, Option.bind_some, show (0 : Int32) = nI 0 from rfl, wrI_n (by omega) (by omega), Option.bind_some, bits9 hF (by omega), Option.bind_some]
  have u0 : upd arr 0 (nI (lo S)) 0 = nI (C 0) := by rw [c0]; exact if_pos rfl
  have cb := cntB_le S.testBit 24
  by_cases c : len = 1
  · have e : cntB S.testBit 24 = 1 := by
      have e1 : cntB S.testBit 24 = cntB (fun k => decide (k = C 0)) 24 := cntB_congr (fun k hk => by
        cases q : S.testBit k with
        | false => exact (decide_eq_false (fun f => by rw [f, m0.2] at q; cases q)).symm
        | true => exact (decide_eq_true (one c k (bit_lt hSN q) q)).symm)
      rw [e1, cnt_one, if_pos (by omega)]
    rw [e, if_pos (show nI 1 = (1 : Int32) from rfl)]
    refine ⟨_, rfl, by rw [c]; rfl, fun j hj => ?_⟩
    rw [show j = 0 by omega]
    exact u0
  · have e : cntB S.testBit 24 ≠ 1 := by
      have m1 := mem 1 (by omega)
      have n1 := ne0 1 (by omega) (by omega)
      rcases Nat.lt_or_gt_of_ne n1 with f | f
      · have a1 := cnt_lt1 (q := S.testBit) f m1.2
        have a2 := cnt_lt1 (q := S.testBit) (show C 0 < 24 by omega) m0.2
        omega
      · have a1 := cnt_lt1 (q := S.testBit) f m0.2
        have a2 := cnt_lt1 (q := S.testBit) (show C 1 < 24 by omega) m1.2
        omega
    have m1 := mem 1 (by omega)
    rw [if_neg (show ¬ nI (cntB S.testBit 24) = (1 : Int32) by rw [c1, nI_eqE (by omega) (by omega)]; exact e), rdI_n (by omega) (by omega), Option.bind_some, u0, corn9 hF hN hP g.2.1 (by omega) m0.1 m1.1 m1.2 (ed (by omega) 0 (by omega)), Option.bind_some]
    obtain ⟨t, et, ht⟩ := lpI (body := fun s38 : Int32 × Int32 × (Nat → Int32) => mX9_laysOutline_b38 F (nI S) (nI N) xs ys s38.1 s38.2.1 s38.2.2) (F := F) (fun j (t : Nat → Int32) => (nI (C j), nI j, t)) (fun j t => ∀ i, i < j → t i = nI (C i)) 1 len (fun t => (nI len, t)) (upd arr 0 (nI (lo S))) (by omega) (s0 := (nI (C 1), (1 : Int32), upd arr 0 (nI (lo S)))) rfl
      (fun i hi => by rw [show i = 0 by omega]; exact u0) (fun j t hj1 hj hI => by
        have mj := mem j hj
        have nj := ne0 j (by omega) hj
        have mj1 : C (j + 1) < N ∧ S.testBit (C (j + 1)) = true := by
          by_cases d : j + 1 < len
          · exact mem (j + 1) d
          · rw [show j + 1 = len by omega, cl]
            exact m0
        refine ⟨upd t j (nI (C j)), ?_, fun i hi => ?_⟩
        · show mX9_laysOutline_b38 F (nI S) (nI N) xs ys (nI (C j)) (nI j) t = _
          unfold mX9_laysOutline_b38
          rw [show (0 : Int32) = nI 0 from rfl, rdI_n (by omega) (by omega), Option.bind_some, hI 0 (by omega), if_neg (by rw [nI_eqE (by omega) (by omega)]; exact nj), wrI_n (by omega) (by omega), Option.bind_some, Option.bind_some, corn9 hF hN hP g.2.1 (by omega) mj.1 mj1.1 mj1.2 (ed (by omega) j hj), Option.bind_some, nI_1]
        · by_cases d : i = j
          · rw [d]
            exact if_pos rfl
          · have u : upd t j (nI (C j)) i = t i := if_neg d
            rw [u]
            exact hI i (by omega)) (fun t hI => by
        show mX9_laysOutline_b38 F (nI S) (nI N) xs ys (nI (C len)) (nI len) t = _
        unfold mX9_laysOutline_b38
        rw [show (0 : Int32) = nI 0 from rfl, rdI_n (by omega) (by omega), Option.bind_some, hI 0 (by omega), if_pos (by rw [cl])]) (by omega)
    exact ⟨_, et, rfl, ht⟩
