/-! ===== PURE 34: calls shown, label, counted ===== -/
theorem gp_comm (X Y W : Nat → Nat) (N : Nat) (s : Nat → Nat) (p q : Nat) : gpB X Y W N s p q = gpB X Y W N s q p := by
  unfold gpB
  rw [dst_comm (ctB X W (s p) N), dst_comm (ctB Y W (s p) N)]
theorem gp_self (X Y W : Nat → Nat) (N : Nat) (s : Nat → Nat) (p : Nat) : gpB X Y W N s p p = 0 := by
  unfold gpB dst
  simp
theorem hd_set {s : Nat → Nat} {p q : Nat} (hp : hdB s p = true) (hq : hdB s q = true) : s p = s q ↔ p = q := by
  constructor
  · intro h
    have a : lo (s p) = p := of_decide_eq_true hp
    have b : lo (s q) = q := of_decide_eq_true hq
    rw [← a, ← b, h]
  · intro h; rw [h]
theorem sh_spec {N R : Nat} {s X Y W : Nat → Nat} {i : Nat} (hi : i ≤ ixB s N) : (shB X Y W N s R i).1 ≤ i ∧ (∀ k, k < (shB X Y W N s R i).1 → (shB X Y W N s R i).2 k < N ∧ hdB s ((shB X Y W N s R i).2 k) = true) ∧
    (∀ a b, a < b → b < (shB X Y W N s R i).1 → R < gpB X Y W N s ((shB X Y W N s R i).2 b) ((shB X Y W N s R i).2 a)) ∧ (0 < i → 0 < (shB X Y W N s R i).1) := by
  have ⟨ra, rb⟩ := rl_spec (s := s) (w := wS W N s) N
  exact vs_spec (g := gpB X Y W N s) (L := rlB s (wS W N s) N) (R := R) (P := fun p => p < N ∧ hdB s p = true) i (fun j hj => ra j (by omega))
theorem lays9 {F N z S : Nat} {X Y W : Nat → Nat} (hF : 1000 ≤ F) (gd : GOOD N X Y W) (hz : z ≤ 10) (hSz : S ≤ 999) {aj ap first made one other second wide w x y : Nat → Int32} (h : TR9 X Y N aj ap first made one other second wide) (hP : ROWS N X Y W w x y) {n sz : Int32} (hn : n = nI N) (hs : sz = nI S) (rm sm : Int32) (part ranked shown : Nat → Int32) :
    ∃ r, mX9_laysLabels F (nI z) n sz rm sm made part ranked shown w wide x y = some r ∧ r.1 = nI (ixB (szB X Y N z) N) ∧ r.2.1 = nI (shB X Y W N (szB X Y N z) (S / 2 ^ z) (ixB (szB X Y N z) N)).1 ∧ (∀ p, p < N → r.2.2.1 p = nI (szB X Y N z p)) ∧
      (∀ j, j < ixB (szB X Y N z) N → r.2.2.2.1 j = nI (szB X Y N z (rlB (szB X Y N z) (wS W N (szB X Y N z)) N j))) ∧ ∀ k, k < (shB X Y W N (szB X Y N z) (S / 2 ^ z) (ixB (szB X Y N z) N)).1 → r.2.2.2.2 k = nI (szB X Y N z ((shB X Y W N (szB X Y N z) (S / 2 ^ z) (ixB (szB X Y N z) N)).2 k)) := by
  subst hn hs
  have hN := gd.1
  have hS := szB_part (X := X) (Y := Y) (z := z) hN
  obtain ⟨t1, e1, g1⟩ := laysZoom9 (F := F) hF hN gd.2.1 hz h part
  have hroom : nI S >>> (nI z &&& 31) = nI (S / 2 ^ z) := nI_shr (by omega) (by omega)
  have hRl : S / 2 ^ z ≤ S := Nat.div_le_self _ _
  generalize S / 2 ^ z = R at hroom hRl ⊢
  generalize szB X Y N z = s at hS g1 ⊢
  obtain ⟨t2, e2, g2⟩ := ranks9 (F := F) hF gd (rows_w hP) hS g1 ranked
  have ixN := ix_lt (s := s) (p := N)
  have ⟨ra, rb⟩ := rl_spec (s := s) (w := wS W N s) N
  unfold mX9_laysLabels
  rw [e1, Option.bind_some, e2, Option.bind_some]
  refine Exists.elim (lpI (body := fun s121 : Int32 × Int32 × (Nat → Int32) => mX9_laysLabels_b121 F (nI z) (nI N) (nI S) w x y t1 (nI (ixB s N)) t2 s121.1 s121.2.1 s121.2.2) (F := F) (fun i (v : Nat → Int32) => (nI i, nI (shB X Y W N s R i).1, v)) (fun i v => ∀ k, k < (shB X Y W N s R i).1 → v k = nI (s ((shB X Y W N s R i).2 k))) 0 (ixB s N)
    (fun v => (nI (ixB s N), nI (shB X Y W N s R (ixB s N)).1, t1, t2, v)) shown (by omega) (s0 := ((0 : Int32), (0 : Int32), shown)) rfl (fun k hk => absurd hk (Nat.not_lt_zero _)) (fun i v _ hi hI2 => ?_) (fun v _ => ?_) (by omega)) (fun v hv => ⟨_, hv.1, rfl, rfl, g1, g2, hv.2⟩)
  · have ⟨s1, s2, _, _⟩ := sh_spec (X := X) (Y := Y) (W := W) (R := R) (s := s) (N := N) (i := i) (by omega)
    have ⟨a1, a2⟩ := ra i hi
    have rk := g2 i hi
    have hle : ¬ nI (ixB s N) ≤ nI i := by rw [nI_leE (by omega) (by omega)]; omega
    have step : shB X Y W N s R (i + 1) = if ckB R (fun k => gpB X Y W N s (rlB s (wS W N s) N i) ((shB X Y W N s R i).2 k)) (shB X Y W N s R i).1 = true then ((shB X Y W N s R i).1 + 1, fun k => if k = (shB X Y W N s R i).1 then rlB s (wS W N s) N i else (shB X Y W N s R i).2 k) else shB X Y W N s R i := rfl
    have isl : loop (fun s134 : Int32 × Int32 => mX9_laysLabels_b134 F (nI z) (nI N) (nI S) w x y t2 (nI i) (nI (shB X Y W N s R i).1) v s134.1 s134.2) F ((1 : Int32), (0 : Int32)) = some (bI (ckB R (fun k => gpB X Y W N s (rlB s (wS W N s) N i) ((shB X Y W N s R i).2 k)) (shB X Y W N s R i).1)) := by
      refine lp (fun k => (bI (ckB R (fun k => gpB X Y W N s (rlB s (wS W N s) N i) ((shB X Y W N s R i).2 k)) k), nI k)) 0 (shB X Y W N s R i).1 _ (by omega) rfl (fun k _ hk => ?_) ?_ (by omega)
      · have ⟨v1, v2⟩ := s2 k hk
        have g9 := gap9 (F := F) hF gd hP hS a1 v1
        have gl := gp_lt gd s (rlB s (wS W N s) N i) ((shB X Y W N s R i).2 k)
        unfold mX9_laysLabels_b134
        simp only []
        rw [if_neg (show ¬ nI (shB X Y W N s R i).1 ≤ nI k by rw [nI_leE (by omega) (by omega)]; omega), nI_1]
        cases e : ckB R (fun k => gpB X Y W N s (rlB s (wS W N s) N i) ((shB X Y W N s R i).2 k)) k with
        | false =>
          have e2 : ckB R (fun k => gpB X Y W N s (rlB s (wS W N s) N i) ((shB X Y W N s R i).2 k)) (k + 1) = false := by
            cases q : ckB R (fun k => gpB X Y W N s (rlB s (wS W N s) N i) ((shB X Y W N s R i).2 k)) (k + 1) with
            | false => rfl
            | true =>
              have := ck_iff.mp q
              rw [ck_iff.mpr (fun j hj => this j (by omega))] at e
              cases e
          rw [if_pos (by rw [k0F]; trivial), e2]
          rfl
        | true =>
          have ce := ck_iff.mp e
          rw [if_neg (by rw [k0T]; exact id), rdI_n (by omega) (by omega), Option.bind_some, rdI_n (by omega) (by omega), Option.bind_some, rk, hI2 k hk, g9, Option.bind_some, hroom]
          by_cases q : gpB X Y W N s (rlB s (wS W N s) N i) ((shB X Y W N s R i).2 k) ≤ R
          · have e2 : ckB R (fun k => gpB X Y W N s (rlB s (wS W N s) N i) ((shB X Y W N s R i).2 k)) (k + 1) = false := by
              cases q2 : ckB R (fun k => gpB X Y W N s (rlB s (wS W N s) N i) ((shB X Y W N s R i).2 k)) (k + 1) with
              | false => rfl
              | true =>
                have := ck_iff.mp q2 k (by omega)
                omega
            rw [if_pos ((nI_leI (by omega) (by omega)).mpr q), e2]
            rfl
          · have e2 : ckB R (fun k => gpB X Y W N s (rlB s (wS W N s) N i) ((shB X Y W N s R i).2 k)) (k + 1) = true := ck_iff.mpr (fun j hj => by
              rcases Nat.lt_succ_iff_lt_or_eq.mp hj with g | g
              · exact ce j g
              · rw [g]; omega)
            rw [if_neg (fun r => q ((nI_leI (by omega) (by omega)).mp r)), e2]
            rfl
      · unfold mX9_laysLabels_b134
        simp only []
        rw [if_pos (by rw [nI_leE (by omega) (by omega)]; omega)]
    cases e : ckB R (fun k => gpB X Y W N s (rlB s (wS W N s) N i) ((shB X Y W N s R i).2 k)) (shB X Y W N s R i).1 with
    | true =>
      rw [if_pos e] at step
      refine ⟨upd v (shB X Y W N s R i).1 (nI (s (rlB s (wS W N s) N i))), ?_, ?_⟩
      · unfold mX9_laysLabels_b121
        simp only []
        rw [if_neg hle, isl, Option.bind_some, e, if_neg (by rw [k0T]; exact id), rdI_n (by omega) (by omega), Option.bind_some, rk, wrI_n (by omega) (by omega), Option.bind_some, nI_1, nI_1, Option.bind_some, step]
      · rw [step]
        intro k hk
        simp only [] at hk ⊢
        by_cases e2 : k = (shB X Y W N s R i).1
        · rw [e2, pk_us, if_pos rfl]
        · rw [pk_un e2, if_neg e2]; exact hI2 k (by omega)
    | false =>
      rw [if_neg (by rw [e]; decide)] at step
      refine ⟨v, ?_, by rw [step]; exact hI2⟩
      unfold mX9_laysLabels_b121
      simp only []
      rw [if_neg hle, isl, Option.bind_some, e, if_pos (by rw [k0F]; trivial), nI_1, step]
  · unfold mX9_laysLabels_b121
    simp only []
    rw [if_pos (by rw [nI_leE (by omega) (by omega)]; omega)]
/-- with which one of those shown a group is counted -/
def cbB (g : Nat → Nat) (n : Nat) : Nat := (nrB g n).getD 0
theorem cb_lt {g : Nat → Nat} {n : Nat} (hn : 0 < n) : cbB g n < n ∧ nrB g n = some (cbB g n) := by
  obtain ⟨b, hb⟩ := nr_some (g := g) hn
  have := bstB_lt hb
  unfold cbB
  rw [hb]
  exact ⟨this.1, rfl⟩
theorem by9 {F N n p R : Nat} {s X Y W V : Nat → Nat} {w x y shown : Nat → Int32} (hF : 1000 ≤ F) (gd : GOOD N X Y W) (hP : ROWS N X Y W w x y) (hS : PART N s) (hn : n ≤ 24) (hp : p < N) (hdp : hdB s p = true)
    (hV : ∀ k, k < n → V k < N ∧ hdB s (V k) = true ∧ shown k = nI (s (V k))) (hR : ∀ a b, a < b → b < n → R < gpB X Y W N s (V b) (V a)) :
    mX9_countedBy F (nI (s p)) (nI N) (nI n) shown w x y = some (nI (cbB (fun k => gpB X Y W N s p (V k)) n)) := by
  have hN := gd.1
  have ⟨p24, _⟩ := part_24 hN hS hp
  unfold mX9_countedBy
  refine (lpS (fun k => (nI (cbB (fun k => gpB X Y W N s p (V k)) k), nI k)) (fun k => decide (V k = p)) n nI (nI (cbB (fun k => gpB X Y W N s p (V k)) n)) rfl (fun k hk _ => ?_) (fun _ => ?_) (by omega)).trans ?_
  · have ⟨v1, v2, v3⟩ := hV k hk
    have ⟨q24, _⟩ := part_24 hN hS v1
    have g1 := gap9 (F := F) hF gd hP hS hp v1
    have cbk : cbB (fun k => gpB X Y W N s p (V k)) k < n := by
      by_cases k0 : 0 < k
      · have := (cb_lt (g := fun k => gpB X Y W N s p (V k)) k0).1; omega
      · rw [show k = 0 by omega]; show 0 < n; omega
    have ⟨u1, u2, u3⟩ := hV _ cbk
    have g2 := gap9 (F := F) hF gd hP hS hp u1
    have l1 := gp_lt gd s p (V k)
    have l2 := gp_lt gd s p (V (cbB (fun k => gpB X Y W N s p (V k)) k))
    unfold mX9_countedBy_b4
    simp only []
    rw [if_neg (show ¬ nI n ≤ nI k by rw [nI_leE (by omega) (by omega)]; omega), rdI_n (by omega) (by omega), Option.bind_some, v3]
    by_cases c : V k = p
    · rw [if_pos (show nI (s (V k)) = nI (s p) by rw [c]), if_pos (decide_eq_true c)]
    · rw [if_neg (show ¬ nI (s (V k)) = nI (s p) by rw [nI_eqE (by omega) (by omega), hd_set v2 hdp]; exact c), if_neg (by rw [decide_eq_false c]; decide), Option.bind_some, g1, Option.bind_some, rdI_n (by omega) (by omega), Option.bind_some, u3, g2, Option.bind_some, nI_1]
      by_cases k0 : 0 < k
      · have ⟨_, nb⟩ := cb_lt (g := fun k => gpB X Y W N s p (V k)) k0
        by_cases d : gpB X Y W N s p (V k) < gpB X Y W N s p (V (cbB (fun k => gpB X Y W N s p (V k)) k))
        · have e2 : nrB (fun k => gpB X Y W N s p (V k)) (k + 1) = some k := bst_s rfl nb (decide_eq_true d)
          rw [if_neg (show ¬ nI (gpB X Y W N s p (V (cbB (fun k => gpB X Y W N s p (V k)) k))) ≤ nI (gpB X Y W N s p (V k)) by rw [nI_leE (by omega) (by omega)]; omega), show cbB (fun k => gpB X Y W N s p (V k)) (k + 1) = k by unfold cbB; rw [e2]; rfl]
        · have e2 : nrB (fun k => gpB X Y W N s p (V k)) (k + 1) = some (cbB (fun k => gpB X Y W N s p (V k)) k) := bst_k rfl nb (decide_eq_false d)
          rw [if_pos (show nI (gpB X Y W N s p (V (cbB (fun k => gpB X Y W N s p (V k)) k))) ≤ nI (gpB X Y W N s p (V k)) by rw [nI_leE (by omega) (by omega)]; omega), show cbB (fun k => gpB X Y W N s p (V k)) (k + 1) = cbB (fun k => gpB X Y W N s p (V k)) k by show (nrB (fun k => gpB X Y W N s p (V k)) (k + 1)).getD 0 = _; rw [e2]; rfl]
      · have kz : k = 0 := by omega
        subst kz
        rw [show cbB (fun k => gpB X Y W N s p (V k)) 0 = 0 from rfl, show cbB (fun k => gpB X Y W N s p (V k)) (0 + 1) = 0 from rfl, if_pos (show nI (gpB X Y W N s p (V 0)) ≤ nI (gpB X Y W N s p (V 0)) by rw [nI_leE (by rw [show cbB (fun k => gpB X Y W N s p (V k)) 0 = 0 from rfl] at l2; omega) (by omega)]; omega)]
  · unfold mX9_countedBy_b4
    simp only []
    rw [if_pos (by rw [nI_leE (by omega) (by omega)]; omega)]
  · cases e : fstB (fun k => decide (V k = p)) n with
    | none => rfl
    | some k0 =>
      have ⟨k1, k2, _⟩ := fstB_some.mp e
      have k3 := of_decide_eq_true k2
      have ⟨c1', c2'⟩ := cb_lt (g := fun k => gpB X Y W N s p (V k)) (show 0 < n by omega)
      have ⟨b1, b2, b3, b4⟩ := bstB_some c2'
      have z : gpB X Y W N s p (V (cbB (fun k => gpB X Y W N s p (V k)) n)) ≤ gpB X Y W N s p (V k0) := b3 k0 k1 rfl
      rw [k3, gp_self] at z
      have : cbB (fun k => gpB X Y W N s p (V k)) n = k0 := by
        rcases Nat.lt_trichotomy (cbB (fun k => gpB X Y W N s p (V k)) n) k0 with g | g | g
        · have := hR _ _ g k1
          rw [k3] at this
          omega
        · exact g
        · have := hR _ _ g c1'
          rw [k3, gp_comm] at this
          omega
      rw [this]
theorem lay8 {F N z S : Nat} {X Y W : Nat → Nat} {aparts fs firsts ja os parts pa roots seconds ws pxs pys : Nat → Int32} {pairs : Nat → Int64} {oc pc sz : Int32} (hF : 1000 ≤ F) (gd : GOOD N X Y W) (hP : ROWS N X Y W ws pxs pys) (h : TR2 X Y N aparts fs firsts ja os parts pa roots seconds pairs) (hz : z ≤ 10) (hSz : S ≤ 999) (hoc : oc = nI (N - 1)) (hpc : pc = nI N) (hs : sz = nI S) (lc cnt : Int32) (holders visible groupAt sets weights xs ys : Nat → Int32) :
    ∃ r, mX8_layLabels F (nI z) sz lc oc pc cnt holders visible aparts parts ws pxs pys groupAt sets weights xs ys = some r ∧ SCALE N (szB X Y N z) X Y W r.2.1 r.2.2.2.2.1 r.2.2.2.2.2.1 r.2.2.2.2.2.2.1 r.2.2.2.2.2.2.2.1 r.2.2.2.2.2.2.2.2 ∧
      r.1 = nI (shB X Y W N (szB X Y N z) (S / 2 ^ z) (ixB (szB X Y N z) N)).1 ∧ (∀ k, k < (shB X Y W N (szB X Y N z) (S / 2 ^ z) (ixB (szB X Y N z) N)).1 → r.2.2.2.1 k = nI (ixB (szB X Y N z) ((shB X Y W N (szB X Y N z) (S / 2 ^ z) (ixB (szB X Y N z) N)).2 k))) ∧
      ∀ p, p < N → hdB (szB X Y N z) p = true → r.2.2.1 (ixB (szB X Y N z) p) = oI (nrB (fun k => gpB X Y W N (szB X Y N z) p ((shB X Y W N (szB X Y N z) (S / 2 ^ z) (ixB (szB X Y N z) N)).2 k)) (shB X Y W N (szB X Y N z) (S / 2 ^ z) (ixB (szB X Y N z) N)).1) := by
  have hN := gd.1
  have hRl : S / 2 ^ z ≤ S := Nat.div_le_self _ _
  obtain ⟨r, er, gr⟩ := cutZ (F := F) hF gd hP h hz hoc hpc cnt groupAt sets weights xs ys
  obtain ⟨l, el, l1, l2, l3⟩ := lay0 (F := F) (R := S / 2 ^ z) hF gd (szB_part hN) gr (by omega) lc holders visible
  refine ⟨(l.1, r.1, l.2.1, l.2.2, r.2.1, r.2.2.1, r.2.2.2.1, r.2.2.2.2.1, r.2.2.2.2.2), ?_, gr, l1, l2, l3⟩
  unfold mX8_layLabels
  rw [er, Option.bind_some, hs, nI_shr (by omega) (by omega), el, Option.bind_some]
theorem call_shown {F : Nat} (hF : 5000 ≤ F) : Call_shown F INV := by
  intro ca cl ci fr a1 h
  have h0 := h
  obtain ⟨N, M, S, X, Y, W, U, V, Z, ⟨g1, g2, g3, g4, g5, g6⟩, ⟨i8, i9, i15, i2, i3, i18, i19⟩, ⟨r1, r2, r3⟩, h4, h5, h6, h7⟩ := h
  have hN := g1.1
  rcases zm_or a1 with ⟨z, hz, rfl, z1, z2⟩ | hz
  · obtain ⟨r, er, gr, l1, l2, l3⟩ := lay8 (F := F) (by omega) g1 r1 h4 hz g3 i8 i9 g4 (ci 5) (ci 11) (ca 14) (ca 15) (ca 38) (ca 39) (ca 40) (ca 41) (ca 42)
    obtain ⟨t, et, t1, t2, t3, t4, t5⟩ := lays9 (F := F) (by omega) g1 hz g3 h6 r2 i15 g5 (ci 23) (ci 24) (ca 68) (ca 69) (ca 72)
    refine ⟨?r8, ?r9, ?e8, ?e9, ?rest⟩
    case e8 =>
      unfold mX8_shown
      rw [isZoom8, decide_eq_true ⟨z1, z2⟩, Option.bind_some, if_neg (by rw [k0T]; exact id), er, Option.bind_some]
    case e9 =>
      unfold mX9_shown
      rw [isZoom9, decide_eq_true ⟨z1, z2⟩, Option.bind_some, if_neg (by rw [k0T]; exact id), et, Option.bind_some]
    case rest => exact ⟨l1.trans t2.symm, h0⟩
  · refine ⟨?r8c, ?r9c, ?e8c, ?e9c, ?restc⟩
    case e8c =>
      unfold mX8_shown
      rw [isZoom8, decide_eq_false hz, Option.bind_some, if_pos (by rw [k0F]; trivial)]
    case e9c =>
      unfold mX9_shown
      rw [isZoom9, decide_eq_false hz, Option.bind_some, if_pos (by rw [k0F]; trivial)]
    case restc => exact ⟨rfl, h0⟩
theorem call_counted {F : Nat} (hF : 5000 ≤ F) : Call_counted F INV := by
  intro ca cl ci fr a1 a2 h
  have h0 := h
  obtain ⟨N, M, S, X, Y, W, U, V, Z, ⟨g1, g2, g3, g4, g5, g6⟩, ⟨i8, i9, i15, i2, i3, i18, i19⟩, ⟨r1, r2, r3⟩, h4, h5, h6, h7⟩ := h
  have hN := g1.1
  rcases zm_or a1 with ⟨z, hz, rfl, z1, z2⟩ | hz
  · have hS := szB_part (X := X) (Y := Y) (z := z) hN
    obtain ⟨r, er, gr, l1, l2, l3⟩ := lay8 (F := F) (by omega) g1 r1 h4 hz g3 i8 i9 g4 (ci 5) (ci 11) (ca 14) (ca 15) (ca 38) (ca 39) (ca 40) (ca 41) (ca 42)
    obtain ⟨u, eu, gu⟩ := groupSet9 (F := F) (by omega) hN g1.2.1 hz h6 (ca 68) a2
    rw [← i15] at eu
    have hc : r.2.1 = nI (cntB (hdB (szB X Y N z)) N) := gr.1
    have hC : cntB (hdB (szB X Y N z)) N ≤ N := cntB_le _ _
    rcases gs_or hN hS a2 with ⟨p, p1, p2, p3, p4, p5, p6⟩ | ⟨p1, p2⟩
    · have ⟨q24, q0⟩ := part_24 hN hS p1
      have ixl := ix_lt (s := szB X Y N z) (p := p)
      have ixs := ix_strict p2 p1
      rw [p4] at eu
      obtain ⟨t, et, t1, t2, t3, t4, t5⟩ := lays9 (F := F) (by omega) g1 hz g3 h6 r2 i15 g5 (ci 23) (ci 24) u (ca 69) (ca 72)
      have ⟨s1, s2, s3, s4⟩ := sh_spec (X := X) (Y := Y) (W := W) (R := S / 2 ^ z) (s := szB X Y N z) (N := N) (i := ixB (szB X Y N z) N) (Nat.le_refl _)
      have hix : ixB (szB X Y N z) N ≤ N := ix_lt
      have npos := s4 (by omega)
      have h3 := l3 p p1 p2
      have ⟨cl1, cl2⟩ := cb_lt (g := fun k => gpB X Y W N (szB X Y N z) p ((shB X Y W N (szB X Y N z) (S / 2 ^ z) (ixB (szB X Y N z) N)).2 k)) npos
      rw [cl2] at h3
      have b9 := by9 (F := F) (V := (shB X Y W N (szB X Y N z) (S / 2 ^ z) (ixB (szB X Y N z) N)).2) (shown := t.2.2.2.2) (by omega) g1 r2 hS (show (shB X Y W N (szB X Y N z) (S / 2 ^ z) (ixB (szB X Y N z) N)).1 ≤ 24 by omega) p1 p2 (fun k hk => ⟨(s2 k hk).1, (s2 k hk).2, t5 k hk⟩) s3
      generalize cbB (fun k => gpB X Y W N (szB X Y N z) p ((shB X Y W N (szB X Y N z) (S / 2 ^ z) (ixB (szB X Y N z) N)).2 k)) (shB X Y W N (szB X Y N z) (S / 2 ^ z) (ixB (szB X Y N z) N)).1 = c at cl1 h3 b9
      have ⟨v1, v2⟩ := s2 c cl1
      have ⟨w24, w0⟩ := part_24 hN hS v1
      have vl := l2 c cl1
      have tl := t5 c cl1
      generalize (shB X Y W N (szB X Y N z) (S / 2 ^ z) (ixB (szB X Y N z) N)).2 c = v at v1 v2 w24 w0 vl tl
      have elv : lo (szB X Y N z v) = v := of_decide_eq_true v2
      have n9 := number9 (F := F) (by omega) hN hS t3 v1
      rw [elv] at n9
      have n0 : ¬ nI (szB X Y N z p) = 0 := by rw [nI_eq0 (by omega)]; exact q0
      have e8 : mX8_counted F (nI z) a2 (ci 0) (ci 5) (ci 8) (ci 9) (ci 11) (ca 14) (ca 15) (ca 19) (ca 25) (ca 26) (ca 27) (ca 28) (ca 38) (ca 39) (ca 40) (ca 41) (ca 42) = some (nI (ixB (szB X Y N z) v), r) := by
        unfold mX8_counted
        rw [isZoom8, decide_eq_true ⟨z1, z2⟩, Option.bind_some, if_neg (by rw [k0T]; exact id), er, Option.bind_some, if_neg (show ¬ a2 < 0 by rw [tI_lt, i_0]; omega), if_pos (show a2 < r.2.1 by rw [hc, tI_lt, tI_n (by omega)]; exact p6), p3, rdI_n (by omega) (by omega), Option.bind_some, h3, show oI (some c) = nI c from rfl,
          if_neg (show ¬ nI c < 0 by rw [nI_lt0 (by omega)]; exact id), if_neg (show ¬ r.1 ≤ nI c by rw [l1, nI_leE (by omega) (by omega)]; omega), rdI_n (by omega) (by omega), Option.bind_some, vl]
      have e9 : mX9_counted F (nI z) a2 (ci 14) (ci 15) (ci 16) (ci 23) (ci 24) (ca 64) (ca 68) (ca 69) (ca 72) (ca 73) (ca 80) (ca 81) (ca 82) = some (nI (ixB (szB X Y N z) v), t.1, t.2.1, 0, t.2.2.1, t.2.2.2.1, t.2.2.2.2) := by
        unfold mX9_counted
        rw [eu, Option.bind_some, if_neg n0, et, Option.bind_some, t2, i15, b9, Option.bind_some, rdI_n (by omega) (by omega), Option.bind_some, tl, least9s (by omega) w24 w0, Option.bind_some, elv, n9, Option.bind_some]
      exact ⟨_, _, e8, e9, rfl, h0⟩
    · rw [p2] at eu
      refine ⟨?r8b, ?r9b, ?e8b, ?e9b, ?restb⟩
      case r8b => exact (-1, r)
      case e8b =>
        unfold mX8_counted
        rw [isZoom8, decide_eq_true ⟨z1, z2⟩, Option.bind_some, if_neg (by rw [k0T]; exact id), er, Option.bind_some]
        by_cases q : a2 < 0
        · rw [if_pos q]
        · rw [if_neg q, if_neg (show ¬ a2 < r.2.1 by rw [tI_lt, i_0] at q; rw [hc, tI_lt, tI_n (by omega)]; omega)]
      case e9b =>
        unfold mX9_counted
        rw [eu, Option.bind_some, if_pos (show nI 0 = (0 : Int32) from rfl)]
      case restb => exact ⟨rfl, h0⟩
  · refine ⟨?r8c, ?r9c, ?e8c, ?e9c, ?restc⟩
    case e8c =>
      unfold mX8_counted
      rw [isZoom8, decide_eq_false hz, Option.bind_some, if_pos (by rw [k0F]; trivial)]
    case e9c =>
      unfold mX9_counted mX9_groupSet
      rw [isZoom9, decide_eq_false hz, Option.bind_some, if_pos (by rw [k0F]; trivial), Option.bind_some, if_pos rfl]
    case restc => exact ⟨rfl, h0⟩
