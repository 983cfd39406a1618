/-! ===== PURE 18: calls that change the points: add, take, clear ===== -/
theorem k0T : ((bI true : Int32) = 0) = False := by decide +kernel
theorem k0F : ((bI false : Int32) = 0) = True := by decide +kernel
theorem good_of_pl {N : Nat} {X Y W : Nat → Nat} (hN : N ≤ 24) (hI : IN N X Y) (hW : ∀ i, i < N → 1 ≤ W i ∧ W i ≤ 99) (h : ∀ i j, i < j → j < N → plB X Y i < plB X Y j) : GOOD N X Y W := by
  refine ⟨hN, hI, hW, fun i j hij hj => ?_⟩
  have a := h i j hij hj
  have b := hI i (by omega)
  have c := hI j hj
  unfold plB at a
  omega
theorem good_ins {N a b w : Nat} {X Y W : Nat → Nat} (h : GOOD N X Y W) (hN : N < 24) (ha : a < 1024) (hb : b < 1024) (hw : 1 ≤ w ∧ w ≤ 99) (hne : ∀ p, p < N → ¬ (X p = a ∧ Y p = b)) :
    GOOD (N + 1) (insB X (ipB X Y a b N) a) (insB Y (ipB X Y a b N) b) (insB W (ipB X Y a b N) w) := by
  have ⟨s1, s2, s3⟩ := ip_spec (X := X) (Y := Y) (a := a) (b := b) (N := N)
  generalize ipB X Y a b N = i0 at s1 s2 s3 ⊢
  refine good_of_pl (by omega) (fun j hj => ?_) (fun j hj => ?_) (fun i j hij hj => ?_)
  · exact ⟨insB_all (P := fun v => v < 1024) s1 (fun j hj => (h.2.1 j hj).1) ha j hj, insB_all (P := fun v => v < 1024) s1 (fun j hj => (h.2.1 j hj).2) hb j hj⟩
  · exact insB_all (P := fun v => 1 ≤ v ∧ v ≤ 99) s1 h.2.2.1 hw j hj
  · have key : ∀ j, j < N + 1 → plB (insB X i0 a) (insB Y i0 b) j = if j < i0 then plB X Y j else if j = i0 then a * 1024 + b else plB X Y (j - 1) := by
      intro j _
      unfold plB insB
      split
      · rfl
      · split <;> rfl
    rw [key i (by omega), key j hj]
    have lowS : 0 < i0 → plB X Y (i0 - 1) < a * 1024 + b := by
      intro h0
      have q := s3 h0
      have q2 := hne (i0 - 1) (by omega)
      have q3 := h.2.1 (i0 - 1) (by omega)
      unfold plB
      omega
    have lows : ∀ p, p < i0 → plB X Y p < a * 1024 + b := by
      intro p hp
      by_cases e : p = i0 - 1
      · rw [e]; exact lowS (by omega)
      · have := good_pl h (show p < i0 - 1 by omega) (by omega)
        have := lowS (by omega)
        omega
    have highs : ∀ p, i0 ≤ p → p < N → a * 1024 + b < plB X Y p := by
      intro p hp hpN
      have q := s2 p hp hpN
      have q3 := h.2.1 p hpN
      unfold plB
      omega
    by_cases c1 : i < i0
    · rw [if_pos c1]
      by_cases d1 : j < i0
      · rw [if_pos d1]; exact good_pl h hij (by omega)
      · rw [if_neg d1]
        by_cases d2 : j = i0
        · rw [if_pos d2]; exact lows i c1
        · rw [if_neg d2]
          have e1 := lows i c1
          have e2 := highs (j - 1) (by omega) (by omega)
          omega
    · rw [if_neg c1, if_neg (show ¬ j < i0 by omega), if_neg (show ¬ j = i0 by omega)]
      by_cases c2 : i = i0
      · rw [if_pos c2]; exact highs (j - 1) (by omega) (by omega)
      · rw [if_neg c2]; exact good_pl h (by omega) (by omega)
theorem good_del {N p : Nat} {X Y W : Nat → Nat} (h : GOOD N X Y W) (hp : p < N) : GOOD (N - 1) (delB X p) (delB Y p) (delB W p) := by
  have hN := h.1
  refine good_of_pl (by omega) (fun j hj => ?_) (fun j hj => ?_) (fun i j hij hj => ?_)
  · unfold delB
    split
    · exact h.2.1 j (by omega)
    · exact h.2.1 (j + 1) (by omega)
  · unfold delB
    split
    · exact h.2.2.1 j (by omega)
    · exact h.2.2.1 (j + 1) (by omega)
  · have key : ∀ j, plB (delB X p) (delB Y p) j = if j < p then plB X Y j else plB X Y (j + 1) := by
      intro j
      unfold plB delB
      split <;> rfl
    rw [key i, key j]
    split
    · split
      · exact good_pl h hij (by omega)
      · exact good_pl h (by omega) (by omega)
    · rw [if_neg (by omega)]
      exact good_pl h (by omega) (by omega)
theorem good_0 (X Y W : Nat → Nat) : GOOD 0 X Y W := ⟨by omega, fun i hi => by omega, fun i hi => by omega, fun i j _ hj => by omega⟩
theorem keeps9 {F N : Nat} {X Y W : Nat → Nat} {xs ys : Nat → Int32} (hF : 1000 ≤ F) (g : GOOD N X Y W) (hP : PT N X Y xs ys) {aj ap first made one other second wide : Nat → Int32} (hT : TR9 X Y N aj ap first made one other second wide) (m r : Int32) (wone wother wplace wwide : Nat → Int32) :
    ∃ r', mX9_keeps F (nI N) m r first second wone wother wplace wwide wide xs ys = some r' ∧ r'.1 = 1 ∧ r'.2.1 = nI N ∧ WAS N X Y r'.2.2.2.2.1 r'.2.2.1 r'.2.2.2.1 r'.2.2.2.2.2 := by
  have hN := g.1
  have j9 := joins9 (F := F) hN
  obtain ⟨t1, e1, g1⟩ := lpI (body := fun s10 : Int32 × (Nat → Int32) => mX9_keeps_b10 F (nI N) xs ys s10.1 s10.2) (F := F) (fun k (t : Nat → Int32) => (nI k, t)) (fun k t => ∀ p, p < k → t p = nI (pn X Y p)) 0 N (fun t => t) wplace (by omega) (s0 := ((0 : Int32), wplace)) rfl
    (fun p hp => by omega) (fun k t _ hk hI2 => by
      have p9 := place9 (F := F) hN hP hk
      exact ⟨upd t k (nI (pn X Y k)), by simp (disch := omega) [mX9_keeps_b10, Option.bind_some, nI_leE, nI_ltE, nI_eqE, nI_1, nI_add, rdI_n, rdL_n, wrI_n, wrL_n, has6b, has9b, bI_0, bI_1, nI_m1, nI_lt0, nI_le0, nI_0le, nI_eq0, leF, leT, ltF, ltT, eqF, p9], upd_all (g := fun k => nI (pn X Y k)) hI2 rfl⟩) (fun t hI2 => by simp (disch := omega) [mX9_keeps_b10, Option.bind_some, nI_leE, nI_ltE, nI_eqE, nI_1, nI_add, rdI_n, rdL_n, wrI_n, wrL_n, has6b, has9b, bI_0, bI_1, nI_m1, nI_lt0, nI_le0, nI_0le, nI_eq0, leF, leT, ltF, ltT, eqF]) (by omega)
  obtain ⟨t2, e2, g2⟩ := lpI (body := fun s37 : Int32 × (Nat → Int32) × (Nat → Int32) × (Nat → Int32) => mX9_keeps_b37 F (nI N) first second wide xs ys t1 s37.1 s37.2.1 s37.2.2.1 s37.2.2.2) (F := F)
    (fun k (t : (Nat → Int32) × (Nat → Int32) × (Nat → Int32)) => (nI k, t)) (fun k t => ∀ j, j < k → t.1 j = nI (pn X Y (fP (KK X Y N) j)) ∧ t.2.1 j = nI (pn X Y (fQ (KK X Y N) j)) ∧ t.2.2 j = nI (KK X Y N j / 1024)) 0 (N - 1)
    (fun t => ((1 : Int32), nI N, t.1, t.2.1, t1, t.2.2)) (wone, wother, wwide) (by omega) (s0 := ((0 : Int32), wone, wother, wwide)) rfl
    (fun p hp => by omega) (fun k t _ hk hI2 => by
      have ⟨a1, a2⟩ := KK_lt (X := X) (Y := Y) hN hk
      have f := hT.1 k hk
      have p1 := place9 (F := F) hN hP a1
      have p2 := place9 (F := F) hN hP a2
      refine ⟨(upd t.1 k (nI (pn X Y (fP (KK X Y N) k))), upd t.2.1 k (nI (pn X Y (fQ (KK X Y N) k))), upd t.2.2 k (nI (KK X Y N k / 1024))), ?_, fun j hj => ?_⟩
      · unfold mX9_keeps_b37
        simp (disch := omega) only [j9, Option.bind_some, nI_leE, leF, if_false, rdI_n, wrI_n, f.1, f.2.1, f.2.2.2.2.2, p1, p2, nI_1]
      · exact ⟨upd_all (g := fun j => nI (pn X Y (fP (KK X Y N) j))) (fun j hj => (hI2 j hj).1) rfl j hj, upd_all (g := fun j => nI (pn X Y (fQ (KK X Y N) j))) (fun j hj => (hI2 j hj).2.1) rfl j hj, upd_all (g := fun j => nI (KK X Y N j / 1024)) (fun j hj => (hI2 j hj).2.2) rfl j hj⟩)
    (fun t hI2 => by
      unfold mX9_keeps_b37
      simp (disch := omega) only [j9, Option.bind_some, nI_leE, leT, if_true]) (by omega)
  refine ⟨((1 : Int32), nI N, t2.1, t2.2.1, t1, t2.2.2), ?_, rfl, rfl, g1, g2⟩
  unfold mX9_keeps
  rw [e1]
  simp only [Option.bind_some]
  rw [e2]
theorem copy4r {F N : Nat} {X Y W : Nat → Nat} (hF : 1000 ≤ F) (hN : N ≤ 24) (c : Int32) {ws xs ys us vs zs : Nat → Int32} (h : ROWS N X Y W us vs zs) : ∃ r, mX4_copy F c (nI N) ws xs ys us vs zs = some r ∧ r.1 = nI N ∧ ROWS N X Y W r.2.1 r.2.2.1 r.2.2.2 := by
  obtain ⟨w, x, y, e, g⟩ := copy4 (F := F) hF hN c ws xs ys us vs zs
  refine ⟨_, e, rfl, fun i hi => ?_⟩
  have a := g i hi
  have b := h i hi
  exact ⟨a.1.trans b.1, a.2.1.trans b.2.1, a.2.2.trans b.2.2⟩
theorem start8 {F N : Nat} {X Y W : Nat → Nat} (hF : 1000 ≤ F) (hN : N ≤ 24) (c : Int32) {ws xs ys us vs zs : Nat → Int32} (h : ROWS N X Y W us vs zs) : ∃ r, mX8_startRepair F c (nI N) ws xs ys us vs zs = some r ∧ r.1 = nI N ∧ ROWS N X Y W r.2.1 r.2.2.1 r.2.2.2 := by
  obtain ⟨r, e, g1, g2⟩ := copy4r (F := F) (ws := ws) (xs := xs) (ys := ys) hF hN c h
  refine ⟨(r.1, r.2.1, r.2.2.1, r.2.2.2), ?_, g1, g2⟩
  unfold mX8_startRepair
  rw [e]
  rfl
theorem put4r {F N a b w : Nat} {X Y W : Nat → Nat} {ws xs ys : Nat → Int32} {c : Int32} (hF : 1000 ≤ F) (hN : N < 24) (ha : a < 1024) (hb : b < 1024) (hI : IN N X Y) (hc : c = nI N) (hP : ROWS N X Y W ws xs ys) :
    ∃ r, mX4_put F (nI a) (nI b) (nI w) c ws xs ys = some r ∧ r.1 = nI (N + 1) ∧ ROWS (N + 1) (insB X (ipB X Y a b N) a) (insB Y (ipB X Y a b N) b) (insB W (ipB X Y a b N) w) r.2.1 r.2.2.1 r.2.2.2 := by
  subst hc
  obtain ⟨x, y, z, e, g⟩ := put4 (F := F) (w := w) hF hN ha hb hI hP
  exact ⟨_, e, rfl, g⟩
theorem put9r {F N a b w : Nat} {X Y W : Nat → Nat} {ws xs ys : Nat → Int32} {c : Int32} (hF : 1000 ≤ F) (hN : N < 24) (ha : a < 1024) (hb : b < 1024) (hI : IN N X Y) (hc : c = nI N) (hP : ROWS N X Y W ws xs ys) :
    ∃ r, mX9_comes F (nI a) (nI b) (nI w) c ws xs ys = some r ∧ r.1 = nI (N + 1) ∧ ROWS (N + 1) (insB X (ipB X Y a b N) a) (insB Y (ipB X Y a b N) b) (insB W (ipB X Y a b N) w) r.2.1 r.2.2.1 r.2.2.2 := by
  subst hc
  obtain ⟨x, y, z, e, g⟩ := put9 (F := F) (w := w) hF hN ha hb hI hP
  exact ⟨_, e, rfl, g⟩
theorem drop4r {F N p : Nat} {X Y W : Nat → Nat} {ws xs ys : Nat → Int32} {c : Int32} (hF : 1000 ≤ F) (hN : N ≤ 24) (hp : p < N) (hc : c = nI N) (hP : ROWS N X Y W ws xs ys) :
    ∃ r, mX4_drop F (nI p) c ws xs ys = some r ∧ r.1 = nI (N - 1) ∧ ROWS (N - 1) (delB X p) (delB Y p) (delB W p) r.2.1 r.2.2.1 r.2.2.2 := by
  subst hc
  obtain ⟨x, y, z, e, g⟩ := drop4 (F := F) hF hN hp hP
  exact ⟨_, e, rfl, g⟩
theorem drop9r {F N p : Nat} {X Y W : Nat → Nat} {ws xs ys : Nat → Int32} {c : Int32} (hF : 1000 ≤ F) (hN : N ≤ 24) (hp : p < N) (hc : c = nI N) (hP : ROWS N X Y W ws xs ys) :
    ∃ r, mX9_goes F (nI p) c ws xs ys = some r ∧ r.1 = nI (N - 1) ∧ ROWS (N - 1) (delB X p) (delB Y p) (delB W p) r.2.1 r.2.2.1 r.2.2.2 := by
  subst hc
  obtain ⟨x, y, z, e, g⟩ := drop9 (F := F) hF hN hp hP
  exact ⟨_, e, rfl, g⟩
theorem rebuild2r {F N : Nat} {X Y : Nat → Nat} {xs ys : Nat → Int32} {pc : Int32} (hF : 1000 ≤ F) (hN : N ≤ 24) (hP : PT N X Y xs ys) (hI : IN N X Y) (hc : pc = nI N) (c : Int32) (aparts fs firsts ja : Nat → Int32) (keys links : Nat → Int64) (nodes os : Nat → Int32) (pairs : Nat → Int64) (parts pa roots seconds : Nat → Int32) :
    ∃ r, mX2_rebuild F c pc aparts fs firsts ja keys links nodes os pairs parts xs ys pa roots seconds = some r ∧ r.1 = nI (N - 1) ∧
      TR2 X Y N r.2.1 r.2.2.1 r.2.2.2.1 r.2.2.2.2.1 r.2.2.2.2.2.2.2.2.1 r.2.2.2.2.2.2.2.2.2.2.1 r.2.2.2.2.2.2.2.2.2.2.2.1 r.2.2.2.2.2.2.2.2.2.2.2.2.1 r.2.2.2.2.2.2.2.2.2.2.2.2.2 r.2.2.2.2.2.2.2.2.2.1 := by
  subst hc
  exact rebuild2 hF hN hP hI c aparts fs firsts ja keys links nodes os pairs parts pa roots seconds
theorem laysTree9r {F N : Nat} {X Y : Nat → Nat} {xs ys : Nat → Int32} {n : Int32} (hF : 1000 ≤ F) (hN : N ≤ 24) (hP : PT N X Y xs ys) (hI : IN N X Y) (hc : n = nI N) (aj ap first made nodeOf one other second setOf wide : Nat → Int32) :
    ∃ r, mX9_laysTree F n aj ap first made nodeOf one other second setOf wide xs ys = some r ∧
      TR9 X Y N r.1 r.2.1 r.2.2.1 r.2.2.2.1 r.2.2.2.2.2.1 r.2.2.2.2.2.2.1 r.2.2.2.2.2.2.2.1 r.2.2.2.2.2.2.2.2.2 := by
  subst hc
  exact laysTree9 hF hN hP hI aj ap first made nodeOf one other second setOf wide
theorem canB_congr {N : Nat} {xs ys xs' ys' : Nat → Int32} (h : ∀ i, i < N → xs i = xs' i ∧ ys i = ys' i) (a b : Int32) : canB N xs ys a b = canB N xs' ys' a b := by
  unfold canB
  rw [fstB_congr (q := fun i => decide (xs' i = a) && decide (ys' i = b)) (fun k hk => by rw [(h k hk).1, (h k hk).2])]
theorem canB_true {N : Nat} {X Y W : Nat → Nat} {ws xs ys : Nat → Int32} {a b : Int32} (hI : IN N X Y) (hP : ROWS N X Y W ws xs ys) (h : canB N xs ys a b = true) :
    N < 24 ∧ ∃ a' b', a = nI a' ∧ b = nI b' ∧ a' < 1024 ∧ b' < 1024 ∧ ∀ p, p < N → ¬ (X p = a' ∧ Y p = b') := by
  unfold canB at h
  have ⟨h1, h2⟩ := (Bool.and_eq_true _ _).mp h
  have h3 := of_decide_eq_true h1
  have h4 := fstB_none.mp (of_decide_eq_true h2)
  refine ⟨h3.2.2.2.2, a.toInt.toNat, b.toInt.toNat, tI_nI h3.1, tI_nI h3.2.2.1, by omega, by omega, fun p hp g => ?_⟩
  have q := h4 p hp
  have ⟨_, r2, r3⟩ := hP p hp
  rw [r2, r3, g.1, g.2, ← tI_nI h3.1, ← tI_nI h3.2.2.1] at q
  simp at q
theorem unlike2r {F n m : Nat} {B C : Nat → Nat} {pairs qairs : Nat → Int64} {c d : Int32} (hF : 1000 ≤ F) (hn : n ≤ 24) (hm : m ≤ 24) (hc : c = nI n) (hd : d = nI m) (h : ∀ j, j < n → pairs j = lN (B j) ∧ B j < 2 ^ 63) (h2 : ∀ j, j < m → qairs j = lN (C j) ∧ C j < 2 ^ 63) :
    mX2_countUnlike F c d pairs qairs = some (nI (cntB (fun j => !hpB C (B j) m) n)) := by
  subst hc hd
  exact unlike2 hF hn hm h h2
theorem newOnes9r {F N M : Nat} {X Y W U V Z : Nat → Nat} {xs ys first second one other : Nat → Int32} {n m r : Int32} (hF : 1000 ≤ F) (gN : GOOD N X Y W) (gM : GOOD M U V Z) (hB : BOTH N M X Y U V xs ys first second one other) (hn : n = nI N) (hm : m = nI M) (hr : r = 1) :
    mX9_newOnes F n m r first second one other xs ys = some (nI (cntB (fun j => !hpB (pairB U V (KK U V M)) (pairB X Y (KK X Y N) j) (M - 1)) (N - 1))) := by
  subst hn hm
  exact newOnes9 hF gN gM hB (Or.inr hr)
theorem call_add {F : Nat} (hF : 5000 ≤ F) : Call_add F INV := by
  intro ca cl ci fr a1 a2 a3 h
  have h0 := h
  obtain ⟨N, M, S, X, Y, W, U, V, Z, ⟨g1, g2, g3, g4, g5, g6⟩, ⟨i8, i9, i15, i2, i3, i18, i19⟩, ⟨r1, r2, r3⟩, h4, h5, h6, h7⟩ := h
  have hN := g1.1
  have w8 := isWeight8 F a3
  have w9 := isInI9 F a3 1 99
  rw [l_1, l_99] at w9
  have c4 := canCome4 (F := F) (by omega) hN a1 a2 (ca 27) (ca 28)
  have c9 := canCome9 (F := F) (by omega) hN a1 a2 (ca 81) (ca 82)
  rw [← canB_congr (rows_eq r1 r2)] at c9
  by_cases c : canB N (ca 27) (ca 28) a1 a2 = true ∧ 1 ≤ a3.toInt ∧ a3.toInt ≤ 99
  · rw [decide_eq_true c.2] at w8 w9
    rw [c.1] at c4 c9
    obtain ⟨hN24, a, b, rfl, rfl, ha, hb, hne⟩ := canB_true g1.2.1 r1 c.1
    obtain ⟨w, hw, rfl⟩ : ∃ w : Nat, (1 ≤ w ∧ w ≤ 99) ∧ a3 = nI w := ⟨a3.toInt.toNat, by omega, tI_nI (by omega)⟩
    have gn := good_ins g1 hN24 ha hb hw hne
    obtain ⟨t5, e5, s5, q5⟩ := start8 (F := F) (ws := ca 7) (xs := ca 8) (ys := ca 9) (by omega) hN (ci 3) r1
    obtain ⟨t6, e6, s6, q6⟩ := put4r (F := F) (w := w) (by omega) hN24 ha hb g1.2.1 s5 q5
    obtain ⟨t7, e7, s7, q7⟩ := rebuild2r (F := F) (by omega) gn.1 (rows_pt q6) gn.2.1 s6 (ci 2) (ca 0) (ca 1) (ca 2) (ca 3) (cl 0) (cl 1) (ca 4) (ca 5) (cl 2) (ca 6) (ca 10) (ca 11) (ca 12)
    have e8 := unlike2r (F := F) (by omega) (by have := gn.1; omega) (by omega) s7 i8 (tr2_pair gn.1 gn.2.1 q7) (tr2_pair hN g1.2.1 h4)
    obtain ⟨u5, f5, v5, v5b, k5⟩ := keeps9 (F := F) (by omega) g1 (rows_pt r2) h6 (ci 18) (ci 19) (ca 74) (ca 75) (ca 77) (ca 78)
    obtain ⟨u6, f6, v6, k6⟩ := put9r (F := F) (w := w) (by omega) hN24 ha hb g1.2.1 i15 r2
    obtain ⟨u7, f7, k7⟩ := laysTree9r (F := F) (by omega) gn.1 (rows_pt k6) gn.2.1 v6 (ca 56) (ca 57) (ca 63) (ca 64) (ca 65) (ca 66) (ca 67) (ca 70) (ca 71) (ca 80)
    have f8 := newOnes9r (F := F) (by omega) gn g1 (tr_both (rows_pt k6) k7 k5) v6 v5b v5
    refine ⟨?r8, ?r9, ?e8, ?e9, ?rest⟩
    case e8 =>
      unfold mX8_add
      rw [i9, w8, c4, e5]
      simp only [Option.bind_some, k0T, if_false]
      rw [e6]
      simp only [Option.bind_some]
      rw [e7]
      simp only [Option.bind_some]
      rw [e8]
      simp only [Option.bind_some]
      exact rfl
    case e9 =>
      unfold mX9_add
      rw [f6, i15, w9, c9, f5]
      simp only [Option.bind_some, k0T, if_false]
      rw [f7]
      simp only [Option.bind_some]
      rw [f8]
      simp only [Option.bind_some]
      exact rfl
    case rest =>
      refine ⟨rfl, fun _ => ?_, fun hf => Bool.noConfusion (show true = false from hf)⟩
      exact ⟨N + 1, N, S, _, _, _, X, Y, W, ⟨gn, g1, g3, g4, g5, g6⟩, ⟨s7, s6, v6, i8, i9, v5b, Or.inr v5⟩, ⟨q6, k6, r1⟩, q7, h4, k7, k5⟩
  · have e8 : mX8_add F a1 a2 a3 (ci 2) (ci 3) (ci 8) (ci 9) (ca 0) (ca 1) (ca 2) (ca 3) (cl 0) (cl 1) (ca 4) (ca 5) (cl 2) (ca 6) (ca 7) (ca 8) (ca 9) (ca 10) (ca 11) (ca 12) (cl 5) (ca 26) (ca 27) (ca 28) = some ((-1 : Int32), ci 2, ci 3, ca 0, ca 1, ca 2, ca 3, cl 0, cl 1, ca 4, ca 5, cl 2, ca 6, ca 7, ca 8, ca 9, ca 10, ca 11, ca 12, false) := by
      unfold mX8_add
      rw [i9, w8, c4]
      by_cases c2 : 1 ≤ a3.toInt ∧ a3.toInt ≤ 99
      · have c1 : canB N (ca 27) (ca 28) a1 a2 = false := Bool.not_eq_true _ |>.mp (fun q => c ⟨q, c2⟩)
        rw [decide_eq_true c2, c1]
        simp only [Option.bind_some, k0T, k0F, if_false, if_true]
      · rw [decide_eq_false c2]
        simp only [Option.bind_some, k0F, if_true]
    have e9 : mX9_add F a1 a2 a3 (ci 14) (ci 15) (ci 18) (ci 19) (ca 56) (ca 57) (ca 63) (ca 64) (ca 65) (ca 66) (ca 67) (ca 70) (ca 71) (ca 73) (ca 74) (ca 75) (ca 77) (ca 78) (ca 80) (ca 81) (ca 82) =
        some ((-1 : Int32), ci 19, ci 15, (0 : Int32), ci 18, ca 56, ca 57, ca 63, ca 64, ca 65, ca 66, ca 67, ca 70, ca 71, ca 73, ca 74, ca 75, ca 77, ca 78, ca 80, ca 81, ca 82) := by
      unfold mX9_add
      rw [show mX9_canCome F a1 a2 (ci 15) (ca 81) (ca 82) = some (bI (canB N (ca 27) (ca 28) a1 a2)) by rw [i15]; exact c9, w9]
      by_cases c2 : 1 ≤ a3.toInt ∧ a3.toInt ≤ 99
      · have c1 : canB N (ca 27) (ca 28) a1 a2 = false := Bool.not_eq_true _ |>.mp (fun q => c ⟨q, c2⟩)
        rw [c1]
        simp only [Option.bind_some, k0F, if_true]
      · rw [decide_eq_false c2]
        by_cases c1 : canB N (ca 27) (ca 28) a1 a2 = true
        · rw [c1]
          simp only [Option.bind_some, k0T, k0F, if_false, if_true]
        · rw [Bool.not_eq_true _ |>.mp c1]
          simp only [Option.bind_some, k0F, if_true]
    exact ⟨_, _, e8, e9, rfl, fun hf => Bool.noConfusion (show false = true from hf), fun _ => ⟨N, M, S, X, Y, W, U, V, Z, ⟨g1, g2, g3, g4, g5, g6⟩, ⟨i8, i9, i15, i2, i3, i18, i19⟩, ⟨r1, r2, r3⟩, h4, h5, h6, h7⟩⟩
theorem call_take {F : Nat} (hF : 5000 ≤ F) : Call_take F INV := by
  intro ca cl ci fr a1 h
  have h0 := h
  obtain ⟨N, M, S, X, Y, W, U, V, Z, ⟨g1, g2, g3, g4, g5, g6⟩, ⟨i8, i9, i15, i2, i3, i18, i19⟩, ⟨r1, r2, r3⟩, h4, h5, h6, h7⟩ := h
  have hN := g1.1
  have p8 := isPoint8 F hN a1
  have p9 := isPoint9 F hN a1
  by_cases c : 0 ≤ a1.toInt ∧ a1.toInt < N
  · rw [decide_eq_true c] at p8 p9
    obtain ⟨p, hp, rfl⟩ : ∃ p, p < N ∧ a1 = nI p := (pt_or a1 (N := N) (by omega)).resolve_right (by omega)
    have gn := good_del g1 hp
    obtain ⟨t5, e5, s5, q5⟩ := start8 (F := F) (ws := ca 7) (xs := ca 8) (ys := ca 9) (by omega) hN (ci 3) r1
    obtain ⟨t6, e6, s6, q6⟩ := drop4r (F := F) (by omega) hN hp s5 q5
    obtain ⟨t7, e7, s7, q7⟩ := rebuild2r (F := F) (by omega) gn.1 (rows_pt q6) gn.2.1 s6 (ci 2) (ca 0) (ca 1) (ca 2) (ca 3) (cl 0) (cl 1) (ca 4) (ca 5) (cl 2) (ca 6) (ca 10) (ca 11) (ca 12)
    have e8 := unlike2r (F := F) (by omega) (by have := gn.1; omega) (by omega) s7 i8 (tr2_pair gn.1 gn.2.1 q7) (tr2_pair hN g1.2.1 h4)
    obtain ⟨u5, f5, v5, v5b, k5⟩ := keeps9 (F := F) (by omega) g1 (rows_pt r2) h6 (ci 18) (ci 19) (ca 74) (ca 75) (ca 77) (ca 78)
    obtain ⟨u6, f6, v6, k6⟩ := drop9r (F := F) (by omega) hN hp i15 r2
    obtain ⟨u7, f7, k7⟩ := laysTree9r (F := F) (by omega) gn.1 (rows_pt k6) gn.2.1 v6 (ca 56) (ca 57) (ca 63) (ca 64) (ca 65) (ca 66) (ca 67) (ca 70) (ca 71) (ca 80)
    have f8 := newOnes9r (F := F) (by omega) gn g1 (tr_both (rows_pt k6) k7 k5) v6 v5b v5
    refine ⟨?r8, ?r9, ?e8, ?e9, ?rest⟩
    case e8 =>
      unfold mX8_take
      rw [i9, p8, e5]
      simp only [Option.bind_some, k0T, if_false]
      rw [e6]
      simp only [Option.bind_some]
      rw [e7]
      simp only [Option.bind_some]
      rw [e8]
      simp only [Option.bind_some]
      exact rfl
    case e9 =>
      unfold mX9_take
      rw [f6, i15, p9, f5]
      simp only [Option.bind_some, k0T, if_false]
      rw [f7]
      simp only [Option.bind_some]
      rw [f8]
      simp only [Option.bind_some]
      exact rfl
    case rest =>
      refine ⟨rfl, fun _ => ?_, fun hf => Bool.noConfusion (show true = false from hf)⟩
      exact ⟨N - 1, N, S, _, _, _, X, Y, W, ⟨gn, g1, g3, g4, g5, g6⟩, ⟨s7, s6, v6, i8, i9, v5b, Or.inr v5⟩, ⟨q6, k6, r1⟩, q7, h4, k7, k5⟩
  · rw [decide_eq_false c] at p8 p9
    have e8 : mX8_take F a1 (ci 2) (ci 3) (ci 8) (ci 9) (ca 0) (ca 1) (ca 2) (ca 3) (cl 0) (cl 1) (ca 4) (ca 5) (cl 2) (ca 6) (ca 7) (ca 8) (ca 9) (ca 10) (ca 11) (ca 12) (cl 5) (ca 26) (ca 27) (ca 28) = some ((-1 : Int32), ci 2, ci 3, ca 0, ca 1, ca 2, ca 3, cl 0, cl 1, ca 4, ca 5, cl 2, ca 6, ca 7, ca 8, ca 9, ca 10, ca 11, ca 12, false) := by
      unfold mX8_take
      rw [i9, p8]
      simp only [Option.bind_some, k0F, if_true]
    have e9 : mX9_take F a1 (ci 14) (ci 15) (ci 18) (ci 19) (ca 56) (ca 57) (ca 63) (ca 64) (ca 65) (ca 66) (ca 67) (ca 70) (ca 71) (ca 73) (ca 74) (ca 75) (ca 77) (ca 78) (ca 80) (ca 81) (ca 82) =
        some ((-1 : Int32), ci 19, ci 15, (0 : Int32), ci 18, ca 56, ca 57, ca 63, ca 64, ca 65, ca 66, ca 67, ca 70, ca 71, ca 73, ca 74, ca 75, ca 77, ca 78, ca 80, ca 81, ca 82) := by
      unfold mX9_take
      rw [show mX9_isPoint F a1 (ci 15) = some (bI false) by rw [i15]; exact p9]
      simp only [Option.bind_some, k0F, if_true]
    exact ⟨_, _, e8, e9, rfl, fun hf => Bool.noConfusion (show false = true from hf), fun _ => ⟨N, M, S, X, Y, W, U, V, Z, ⟨g1, g2, g3, g4, g5, g6⟩, ⟨i8, i9, i15, i2, i3, i18, i19⟩, ⟨r1, r2, r3⟩, h4, h5, h6, h7⟩⟩
theorem call_clear {F : Nat} (hF : 5000 ≤ F) : Call_clear F INV := by
  intro ca cl ci fr h
  have h0 := h
  obtain ⟨N, M, S, X, Y, W, U, V, Z, ⟨g1, g2, g3, g4, g5, g6⟩, ⟨i8, i9, i15, i2, i3, i18, i19⟩, ⟨r1, r2, r3⟩, h4, h5, h6, h7⟩ := h
  have hN := g1.1
  obtain ⟨t5, e5, s5, q5⟩ := start8 (F := F) (ws := ca 7) (xs := ca 8) (ys := ca 9) (by omega) hN (ci 3) r1
  have gn := good_0 X Y W
  obtain ⟨t7, e7, s7, q7⟩ := rebuild2r (F := F) (N := 0) (X := X) (Y := Y) (xs := t5.2.2.1) (ys := t5.2.2.2) (pc := 0) (by omega) gn.1 (fun i hi => by omega) gn.2.1 rfl (ci 2) (ca 0) (ca 1) (ca 2) (ca 3) (cl 0) (cl 1) (ca 4) (ca 5) (cl 2) (ca 6) (ca 10) (ca 11) (ca 12)
  obtain ⟨u5, f5, v5, v5b, k5⟩ := keeps9 (F := F) (by omega) g1 (rows_pt r2) h6 (ci 18) (ci 19) (ca 74) (ca 75) (ca 77) (ca 78)
  refine ⟨?r8, ?r9, ?e8, ?e9, ?rest⟩
  case e8 =>
    unfold mX8_clear
    rw [i9, e5]
    simp only [Option.bind_some]
    rw [e7]
    simp only [Option.bind_some]
    exact rfl
  case e9 =>
    unfold mX9_clear
    rw [i15, f5]
    simp only [Option.bind_some]
    exact rfl
  case rest =>
    refine ⟨s5, ?_⟩
    exact ⟨0, N, S, X, Y, W, X, Y, W, ⟨gn, g1, g3, g4, g5, g6⟩, ⟨s7, rfl, rfl, i8, i9, v5b, Or.inr v5⟩, ⟨fun i hi => by omega, fun i hi => by omega, r1⟩, q7, h4, ⟨fun j hj => by omega, fun j hj => by omega, fun j hj => by omega⟩, k5⟩
