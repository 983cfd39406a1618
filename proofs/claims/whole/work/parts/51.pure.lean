/-! ===== PURE 42: best, the class's loop ===== -/
theorem sel_step {X Y W : Nat → Nat} {N t k : Nat} (ht : N - 1 - t = k + 1) (q : Nat) : fT X Y W N (t + 1) q = if fT X Y W N t q = 100 + k ∧ spB X Y W N k = true then ndB (fP (KK X Y N)) (fQ (KK X Y N)) k q else fT X Y W N t q := by
  have : k = N - 1 - 1 - t := by omega
  rw [this]
  rfl
theorem sel_zero {X Y W : Nat → Nat} {N t k : Nat} {r : Int32 × (Nat → Int32) × (Nat → Int32)} (ht : N - 1 - t = k + 1) (h : SEL X Y W N t r) (hr : ∀ l, l < N → fT X Y W N t l ≠ 100 + k) : SEL X Y W N (t + 1) r := by
  obtain ⟨hg, hc, ho⟩ := h
  have e : ∀ l, l < N → fT X Y W N (t + 1) l = fT X Y W N t l := fun l hl => by rw [sel_step ht, if_neg (fun q => hr l hl q.1)]
  refine ⟨fun l hl => ?_, hc, fun i hi => ?_⟩
  · rw [hg l hl]
    have ne := hr l hl
    unfold slotB
    rw [e l hl]
    by_cases q : lo (snN X Y N (fT X Y W N t l)) = l ∧ (fT X Y W N t l < 100 ∨ 100 + (N - 1 - t) ≤ fT X Y W N t l)
    · rw [if_pos q, if_pos ⟨q.1, by omega⟩]
    · rw [if_neg q, if_neg (fun g => q ⟨g.1, by omega⟩)]
  · rcases ho i (by omega) with ⟨o, l, hl, f⟩ | ⟨o, f⟩
    · exact Or.inl ⟨o, l, hl, by rw [e l hl]; exact f⟩
    · exact Or.inr ⟨o, fun l hl => by rw [e l hl]; exact f l hl⟩
theorem sel_not {X Y W : Nat → Nat} {N t k : Nat} {r : Int32 × (Nat → Int32) × (Nat → Int32)} (hN : N ≤ 24) (hk : k < N - 1) (ht : N - 1 - t = k + 1) (h : SEL X Y W N t r) (hs : spB X Y W N k = false) (hr : ∃ l, l < N ∧ fT X Y W N t l = 100 + k) :
    snN X Y N (100 + k) < 2 ^ 24 ∧ snN X Y N (100 + k) ≠ 0 ∧ lo (snN X Y N (100 + k)) < N ∧ r.2.1 (lo (snN X Y N (100 + k))) = -1 ∧
    SEL X Y W N (t + 1) (CN N (upd r.2.1 (lo (snN X Y N (100 + k))) (nI (100 + k))), upd r.2.1 (lo (snN X Y N (100 + k))) (nI (100 + k)), r.2.2) := by
  obtain ⟨hg, hc, ho⟩ := h
  obtain ⟨l0, hl0, f0⟩ := hr
  have hK : ∀ i, i < N - 1 → fP (KK X Y N) i < N ∧ fQ (KK X Y N) i < N := fun i hi => KK_lt hN hi
  have fa := fr_all (sp := spB X Y W N) hN hK t (by omega)
  have hS : PART N (fun l => snN X Y N (fT X Y W N t l)) := fr_part (sp := spB X Y W N) hN hK (t := t) (by omega)
  have l1 := lo_part hN hS hl0
  have ⟨m24, m0⟩ := part_24 hN hS hl0
  have es : snN X Y N (fT X Y W N t l0) = snN X Y N (100 + k) := by rw [f0]
  have l1a : lo (snN X Y N (100 + k)) < N := by rw [← es]; exact l1.1
  have l1b : (snN X Y N (100 + k)).testBit (lo (snN X Y N (100 + k))) = true := by rw [← es]; exact l1.2.1
  have E2 : fT X Y W N t (lo (snN X Y N (100 + k))) = 100 + k := by
    have c := (fa l0 hl0).2.2 _ l1a
    rw [show frB (spB X Y W N) (fP (KK X Y N)) (fQ (KK X Y N)) (N - 1) t l0 = 100 + k from f0] at c
    exact c l1b
  have e : ∀ l, fT X Y W N (t + 1) l = fT X Y W N t l := fun l => by rw [sel_step ht, if_neg (fun q => by rw [hs] at q; exact Bool.false_ne_true q.2)]
  refine ⟨by rw [← es]; exact m24, by rw [← es]; exact m0, l1a, ?_, fun l hl => ?_, rfl, fun i hi => ?_⟩
  · rw [hg _ l1a]
    unfold slotB
    rw [E2, if_neg (fun q => by omega)]
  · show upd r.2.1 (lo (snN X Y N (100 + k))) (nI (100 + k)) l = slotB X Y W N (t + 1) l
    unfold slotB
    rw [e l]
    by_cases q : l = lo (snN X Y N (100 + k))
    · rw [q, E2, if_pos ⟨rfl, Or.inr (by omega)⟩]
      exact if_pos rfl
    · rw [show upd r.2.1 (lo (snN X Y N (100 + k))) (nI (100 + k)) l = r.2.1 l from if_neg q, hg l hl]
      unfold slotB
      by_cases q2 : fT X Y W N t l = 100 + k
      · rw [q2, if_neg (fun g => q g.1.symm), if_neg (fun g => q g.1.symm)]
      · by_cases q3 : lo (snN X Y N (fT X Y W N t l)) = l ∧ (fT X Y W N t l < 100 ∨ 100 + (N - 1 - t) ≤ fT X Y W N t l)
        · rw [if_pos q3, if_pos ⟨q3.1, by omega⟩]
        · rw [if_neg q3, if_neg (fun g => q3 ⟨g.1, by omega⟩)]
  · rcases ho i (by omega) with ⟨o, l, hl, f⟩ | ⟨o, f⟩
    · exact Or.inl ⟨o, l, hl, by rw [e l]; exact f⟩
    · exact Or.inr ⟨o, fun l hl => by rw [e l]; exact f l hl⟩
theorem fT_0 {X Y W : Nat → Nat} {N l : Nat} (hN : N ≤ 24) (h2 : 2 ≤ N) (hl : l < N) : fT X Y W N 0 l = 100 + (N - 2) := by
  have hK : ∀ i, i < N - 1 → fP (KK X Y N) i < N ∧ fQ (KK X Y N) i < N := fun i hi => KK_lt hN hi
  have ⟨hP, hQ⟩ := hK (N - 2) (by omega)
  have hS := sm_part (P := fP (KK X Y N)) (Q := fQ (KK X Y N)) (N := N) (N - 2) (fun i hi => hK i (by omega))
  have a := nd_same (N - 1) hK (fP (KK X Y N) (N - 2)) l hP hl (tree_all hN hP hl)
  have b : ndB (fP (KK X Y N)) (fQ (KK X Y N)) (N - 2 + 1) (fP (KK X Y N) (N - 2)) = 100 + (N - 2) := if_pos (pm_a hS hP)
  rw [show N - 2 + 1 = N - 1 by omega] at b
  exact a.symm.trans b
theorem am1 (a : Int32) : a + (-1 : Int32) = a - 1 := (Int32.sub_eq_add_neg a 1).symm
theorem choose1 {F N : Nat} {X Y W : Nat → Nat} {aparts fs firsts ja os parts pa roots seconds whole g0 op0 : Nat → Int32} {pairs : Nat → Int64} (hF : 1000 ≤ F) (hN : N ≤ 24) (h2 : 2 ≤ N) (h : TR2 X Y N aparts fs firsts ja os parts pa roots seconds pairs) (hT : ∀ i, i < N - 1 → whole i = whB X Y W N i) (hg0 : ∀ l, l < N → g0 l = -1) (ho0 : ∀ i, i < N - 1 → op0 i = if i = N - 2 then 1 else 0) :
    ∃ r, mX1_chooseJoins F (0 : Int32) (nI (N - 1)) g0 op0 whole fs os parts = some r ∧ SEL X Y W N (N - 1) r := by
  have init : SEL X Y W N 0 ((0 : Int32), g0, op0) := by
    refine ⟨fun l hl => ?_, ?_, fun i hi => ?_⟩
    · show g0 l = slotB X Y W N 0 l
      rw [hg0 l hl]
      unfold slotB
      rw [fT_0 hN h2 hl, if_neg (fun q => by omega)]
    · show (0 : Int32) = CN N g0
      unfold CN
      rw [cntB_congr (q := fun _ => false) (fun l hl => by rw [hg0 l hl]; rfl), cntB_sum]
      have z : sumB (fun k : Nat => if false = true then 1 else 0) N = 0 := (sumB_congr (g := fun _ => 0) (fun k _ => rfl)).trans (sumB_0 N)
      rw [z]
      rfl
    · show (op0 i = 1 ∧ _) ∨ (op0 i = 0 ∧ _)
      rw [ho0 i (by omega)]
      by_cases q : i = N - 2
      · exact Or.inl ⟨if_pos q, 0, by omega, by rw [fT_0 hN h2 (by omega), q]⟩
      · exact Or.inr ⟨if_neg q, fun l hl => by rw [fT_0 hN h2 hl]; omega⟩
  unfold mX1_chooseJoins
  rw [Option.bind_some]
  refine lpI (body := fun s7 : Int32 × Int32 × (Nat → Int32) × (Nat → Int32) => mX1_chooseJoins_b7 F whole fs os parts s7.1 s7.2.1 s7.2.2.1 s7.2.2.2) (F := F) (fun t (r : Int32 × (Nat → Int32) × (Nat → Int32)) => (nI (N - 1 - t) - 1, r)) (fun t r => SEL X Y W N t r) 0 (N - 1) (fun r => r) ((0 : Int32), g0, op0) (by omega) (s0 := (nI (N - 1) - 1, (0 : Int32), g0, op0)) rfl
    init (fun t r _ ht hI2 => ?_) (fun r _ => ?_) (by omega)
  · obtain ⟨k, hk⟩ : ∃ k, N - 1 - t = k + 1 := ⟨N - 1 - t - 1, by omega⟩
    have hk1 : k < N - 1 := by omega
    have x2 : nI (N - 1 - t) - 1 = nI k := by rw [hk, nI_s1 (by omega)]; rfl
    have x3 : nI (N - 1 - (t + 1)) - 1 = nI k + (-1 : Int32) := by rw [show N - 1 - (t + 1) = k by omega, am1]
    have e100 : (100 : Int32) + nI k = nI (100 + k) := by rw [c100, nI_add]
    have hC := hI2.2.1
    rw [x2, x3]
    rcases hI2.2.2 k (by omega) with ⟨o, l, hl, f⟩ | ⟨o, f⟩
    · by_cases s : lsJ X Y W N k < btS X Y W N k
      · have ⟨sA, sB, sS⟩ := sel_split hN hk1 hk hI2 (decide_eq_true s) ⟨l, hl, f⟩
        have up : ∀ c, NDL N k c → NDL N (N - 1) c := fun c hc => by
          rcases hc with a | ⟨i, a, b⟩
          · exact Or.inl a
          · exact Or.inr ⟨i, by omega, b⟩
        have oA := open1 (g := r.2.1) (op := r.2.2) hF hN h (up _ (noA_l hN hk1)) sA
        have oB := open1 (g := gO (noA X Y N k) r.2.1) (op := oO (noA X Y N k) r.2.2) hF hN h (up _ (noB_l hN hk1)) sB
        have f1 : fs k = nI (noA X Y N k) := (h.1 k hk1).2.1
        have f2 : os k = nI (noB X Y N k) := (h.1 k hk1).2.2.2.1
        refine ⟨_, ?_, sS⟩
        unfold mX1_chooseJoins_b7
        simp only []
        rw [if_neg (show ¬ nI k < 0 by rw [nI_lt0 (by omega)]; exact id), rdI_n (by omega) (by omega), Option.bind_some, o, if_neg (show ¬ (1 : Int32) = 0 by decide +kernel), rdI_n (by omega) (by omega), Option.bind_some, hT k hk1, show whB X Y W N k = 0 from if_pos s, if_pos rfl, rdI_n (by omega) (by omega), Option.bind_some, f1, hC, oA, Option.bind_some, rdI_n (by omega) (by omega), Option.bind_some, f2, oB, Option.bind_some]
      · have ⟨m24, m0, lN, lg, sS⟩ := sel_not hN hk1 hk hI2 (decide_eq_false s) ⟨l, hl, f⟩
        have p := put1 (g := r.2.1) hF hN h (x := 100 + k) (Or.inr ⟨k, hk1, rfl⟩) m24 m0 lN lg
        refine ⟨_, ?_, sS⟩
        unfold mX1_chooseJoins_b7
        simp only []
        rw [if_neg (show ¬ nI k < 0 by rw [nI_lt0 (by omega)]; exact id), rdI_n (by omega) (by omega), Option.bind_some, o, if_neg (show ¬ (1 : Int32) = 0 by decide +kernel), rdI_n (by omega) (by omega), Option.bind_some, hT k hk1, show whB X Y W N k = 1 from if_neg s, if_neg (show ¬ (1 : Int32) = 0 by decide +kernel), e100, hC, p, Option.bind_some]
    · refine ⟨r, ?_, sel_zero hk hI2 f⟩
      unfold mX1_chooseJoins_b7
      simp only []
      rw [if_neg (show ¬ nI k < 0 by rw [nI_lt0 (by omega)]; exact id), rdI_n (by omega) (by omega), Option.bind_some, o, if_pos rfl]
  · unfold mX1_chooseJoins_b7
    simp only []
    rw [show N - 1 - (N - 1) = 0 by omega, if_pos (show nI 0 - 1 < 0 by decide +kernel)]
