/-! ===== PURE 47: best, the reference's walk ===== -/
theorem takes9 {F N : Nat} {X Y W : Nat → Nat} {aj ap first made one other second wide w : Nat → Int32} (hF : 5000 ≤ F) (hN : N ≤ 24) (hI : IN N X Y) (h : TR9 X Y N aj ap first made one other second wide) (hw : ∀ i, i < N → w i = nI (W i)) :
    ∀ d x, (x < N ∨ ∃ j, j < N - 1 ∧ j < d ∧ x = 100 + j) → REACH X Y W N x → ∀ (q : Nat → Bool) (arr : Nat → Int32), (∀ l, l < N → q l = true → hdF X Y W N l = true) → (∀ l, l < N → (snN X Y N x).testBit l = true → q l = false) → LSTQ N (fT X Y W N (N - 1)) q (nI (cntB q N), arr) →
      ∃ r, mX9_takesBest F (d + 1) (nI x) (nI N) (nI (cntB q N)) aj ap arr made one other w wide = some r ∧ LSTQ N (fT X Y W N (N - 1)) (fun l => q l || (hdF X Y W N l && (snN X Y N x).testBit l)) r := by
  have pt : ∀ d x, x < N → REACH X Y W N x → ∀ (q : Nat → Bool) (arr : Nat → Int32), (∀ l, l < N → q l = true → hdF X Y W N l = true) → (∀ l, l < N → (snN X Y N x).testBit l = true → q l = false) → LSTQ N (fT X Y W N (N - 1)) q (nI (cntB q N), arr) →
      ∃ r, mX9_takesBest F (d + 1) (nI x) (nI N) (nI (cntB q N)) aj ap arr made one other w wide = some r ∧ LSTQ N (fT X Y W N (N - 1)) (fun l => q l || (hdF X Y W N l && (snN X Y N x).testBit l)) r := fun d x hx hr q arr hq hd hL => by
    rw [mX9_takesBest, if_pos (show nI x < (100 : Int32) by rw [c100, nI_ltE (by omega) (by omega)]; omega)]
    exact take_fin (by omega) hN h hx (by rw [show snN X Y N x = 2 ^ x from sn_P (by omega), Nat.testBit_two_pow]; simp) (fun l hl m => (hr l hl m).1 (by omega)) hq hd hL
  intro d
  induction d with
  | zero =>
    intro x hx hr q arr hq hd hL
    rcases hx with hx | ⟨j, _, hj, _⟩
    · exact pt 0 x hx hr q arr hq hd hL
    · omega
  | succ d ih =>
    intro x hx hr q arr hq hd hL
    rcases hx with hx | ⟨j, h1, h2, rfl⟩
    · exact pt (d + 1) x hx hr q arr hq hd hL
    · have a := h.1 j h1
      have o1 : one j = nI (noA X Y N j) := a.2.2.2.1
      have o2 : other j = nI (noB X Y N j) := a.2.2.2.2.1
      have b9 : ∀ c, NDL N j c → mX9_bestOf F 30 (nI c) (nI N) aj ap made one other w wide = some (btV X Y W N c) := fun c hc => bestOf9 hF hN hI h hw 29 c (by
        rcases hc with a | ⟨i, a, b⟩
        · exact Or.inl a
        · exact Or.inr ⟨i, by omega, by omega, b⟩)
      have up : ∀ c, NDL N j c → (c < N ∨ ∃ i, i < N - 1 ∧ i < d ∧ c = 100 + i) := fun c hc => by
        rcases hc with a | ⟨i, a, b⟩
        · exact Or.inl a
        · exact Or.inr ⟨i, by omega, by omega, b⟩
      have hKj : ∀ i, i < j → fP (KK X Y N) i < N ∧ fQ (KK X Y N) i < N := fun i hi => KK_lt hN (by omega)
      have ⟨hP, hQ⟩ := KK_lt (X := X) (Y := Y) hN h1
      have hS := sm_part (P := fP (KK X Y N)) (Q := fQ (KK X Y N)) (N := N) j hKj
      have eJ : snN X Y N (100 + j) = pmB (fP (KK X Y N)) (fQ (KK X Y N)) j := sn_J
      have eA : snN X Y N (noA X Y N j) = smB (fP (KK X Y N)) (fQ (KK X Y N)) j (fP (KK X Y N) j) := sn_nd (by omega)
      have eB : snN X Y N (noB X Y N j) = smB (fP (KK X Y N)) (fQ (KK X Y N)) j (fQ (KK X Y N) j) := sn_nd (by omega)
      have bits : ∀ l, (snN X Y N (100 + j)).testBit l = ((snN X Y N (noA X Y N j)).testBit l || (snN X Y N (noB X Y N j)).testBit l) := fun l => by
        rw [eJ, eA, eB, show pmB (fP (KK X Y N)) (fQ (KK X Y N)) j = smB (fP (KK X Y N)) (fQ (KK X Y N)) j (fP (KK X Y N) j) ||| smB (fP (KK X Y N)) (fQ (KK X Y N)) j (fQ (KK X Y N) j) from rfl, or_bit]
      rw [mX9_takesBest, if_neg (show ¬ nI (100 + j) < (100 : Int32) by rw [c100, nI_ltE (by omega) (by omega)]; omega), lastsJ9 hF hN hI h hw h1, Option.bind_some, hun_sub, rdI_n (by omega) (by omega), Option.bind_some, o1, b9 _ (noA_l hN h1), Option.bind_some, rdI_n (by omega) (by omega), Option.bind_some, o2, b9 _ (noB_l hN h1), Option.bind_some]
      by_cases s : lsJ X Y W N j < btS X Y W N j
      · have hs : spB X Y W N j = true := decide_eq_true s
        have rA : REACH X Y W N (noA X Y N j) := reach_nd hN h1 hs hr hP (fun l _ g => by rw [← eJ, bits, eA, g]; rfl)
        have rB : REACH X Y W N (noB X Y N j) := reach_nd hN h1 hs hr hQ (fun l _ g => by rw [← eJ, bits, eB, g, Bool.or_true])
        obtain ⟨r1, e1, g1⟩ := ih _ (up _ (noA_l hN h1)) rA q arr hq (fun l hl m => hd l hl (by rw [bits, m]; rfl)) hL
        have c1 := g1.1
        have gg : LSTQ N (fT X Y W N (N - 1)) (fun l => q l || (hdF X Y W N l && (snN X Y N (noA X Y N j)).testBit l)) (nI (cntB (fun l => q l || (hdF X Y W N l && (snN X Y N (noA X Y N j)).testBit l)) N), r1.2) := ⟨rfl, g1.2⟩
        obtain ⟨r2, e2, g2⟩ := ih _ (up _ (noB_l hN h1)) rB (fun l => q l || (hdF X Y W N l && (snN X Y N (noA X Y N j)).testBit l)) r1.2 (fun l hl g => by
          rw [Bool.or_eq_true, Bool.and_eq_true] at g
          rcases g with g | g
          · exact hq l hl g
          · exact g.1) (fun l hl m => by
          have z : q l = false := hd l hl (by rw [bits, m, Bool.or_true])
          have za : (snN X Y N (noA X Y N j)).testBit l = false := by
            cases ma : (snN X Y N (noA X Y N j)).testBit l with
            | false => rfl
            | true =>
              rw [eA] at ma
              rw [eB] at m
              exact absurd (part_eq hS hP hQ hl ma m) ((tree_parts (X := X) (Y := Y) hN (show j ≤ N - 1 by omega)).2 h1)
          show (q l || (hdF X Y W N l && (snN X Y N (noA X Y N j)).testBit l)) = false
          rw [z, za, Bool.and_false]
          rfl) gg
        rw [if_neg (show ¬ btV X Y W N (noA X Y N j) + btV X Y W N (noB X Y N j) ≤ lsJ X Y W N j from fun g => absurd s (Int32.not_lt.mpr g)), Option.bind_some, e1, Option.bind_some, Option.bind_some, c1, e2, Option.bind_some]
        refine ⟨_, rfl, LSTQ_congr (fun l _ => ?_) g2⟩
        show (q l || (hdF X Y W N l && (snN X Y N (noA X Y N j)).testBit l) || (hdF X Y W N l && (snN X Y N (noB X Y N j)).testBit l)) = (q l || (hdF X Y W N l && (snN X Y N (100 + j)).testBit l))
        rw [bits l, Bool.or_assoc, Bool.and_or_distrib_left]
      · have hs : spB X Y W N j = false := decide_eq_false s
        rw [if_pos (show btV X Y W N (noA X Y N j) + btV X Y W N (noB X Y N j) ≤ lsJ X Y W N j from Int32.not_lt.mp s)]
        refine take_fin (by omega) hN h hP (by rw [eJ]; exact pm_a hS hP) (fun l hl m => ?_) hq hd hL
        have f := (hr l hl m).2 j h1 rfl
        have st := sel_step (X := X) (Y := Y) (W := W) (N := N) (t := N - 1 - (j + 1)) (k := j) (by omega) l
        rw [if_neg (fun g => by rw [hs] at g; exact Bool.false_ne_true g.2), f] at st
        have t := fT_stay st j (by omega) (fun k _ _ => by omega)
        rw [show N - 1 - (j + 1) + 1 + j = N - 1 by omega] at t
        exact t
