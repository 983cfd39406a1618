/-! ===== PURE 33: labels are laid ===== -/
theorem absE {a b : Nat} (ha : a < 2 ^ 30) (hb : b < 2 ^ 30) : (if 0 ≤ nI a - nI b then nI a - nI b else 0 - (nI a - nI b)) = nI (dst a b) := by
  unfold dst
  by_cases h : b ≤ a
  · have e : nI a - nI b = nI (a - b) := pk_sub h
    rw [e, if_pos (by rw [nI_0le (by omega)]; trivial)]
    split
    · congr 1; omega
    · rfl
  · have e : nI a - nI b < 0 := pk_sneg hb (by omega)
    rw [if_neg (Int32.not_le.mpr e), if_pos (by omega), Int32.zero_sub, Int32.neg_sub, pk_sub (by omega)]
theorem farE_n {a b c d : Nat} (ha : a < 2 ^ 30) (hb : b < 2 ^ 30) (hc : c < 2 ^ 30) (hd : d < 2 ^ 30) : farE (nI a - nI b) (nI c - nI d) = nI (max (dst a b) (dst c d)) := by
  unfold farE
  rw [absE ha hb, absE hc hd]
  have h1 : dst a b < 2 ^ 30 := dst_lt ha hb
  have h2 : dst c d < 2 ^ 30 := dst_lt hc hd
  exact maxI (by omega) (by omega)
/-- how far the centres of two groups are from one another -/
def gpB (X Y W : Nat → Nat) (N : Nat) (s : Nat → Nat) (p q : Nat) : Nat := max (dst (ctB X W (s p) N) (ctB X W (s q) N)) (dst (ctB Y W (s p) N) (ctB Y W (s q) N))
theorem ct_lt {N m : Nat} {X W : Nat → Nat} (hN : N ≤ 24) (hX : ∀ i, i < N → X i < 1024) (hW : ∀ i, i < N → W i ≤ 99) : ctB X W m N < 2 ^ 30 := by
  have a := sxB_le (m := m) hN hX hW
  have b : ctB X W m N ≤ sumB (fun i => if m.testBit i = true then X i * W i else 0) N := Nat.div_le_self _ _
  omega
theorem ct_gd {N : Nat} {X Y W : Nat → Nat} (gd : GOOD N X Y W) (m : Nat) : ctB X W m N < 2 ^ 30 ∧ ctB Y W m N < 2 ^ 30 :=
  ⟨ct_lt gd.1 (fun i hi => (gd.2.1 i hi).1) (fun i hi => (gd.2.2.1 i hi).2), ct_lt gd.1 (fun i hi => (gd.2.1 i hi).2) (fun i hi => (gd.2.2.1 i hi).2)⟩
theorem gp_lt {N : Nat} {X Y W : Nat → Nat} (gd : GOOD N X Y W) (s : Nat → Nat) (p q : Nat) : gpB X Y W N s p q < 2 ^ 30 := by
  have a := dst_lt (ct_gd gd (s p)).1 (ct_gd gd (s q)).1
  have b := dst_lt (ct_gd gd (s p)).2 (ct_gd gd (s q)).2
  unfold gpB
  omega
theorem gap5 {F N p q : Nat} {s X Y W : Nat → Nat} {cnt : Int32} {groupAt sets weights xs ys : Nat → Int32} (gd : GOOD N X Y W) (h : SCALE N s X Y W cnt groupAt sets weights xs ys) (hp : p < N) (hdp : hdB s p = true) (hq : q < N) (hdq : hdB s q = true) :
    mX5_gap F (nI (ixB s p)) (nI (ixB s q)) xs ys = some (nI (gpB X Y W N s p q)) := by
  have hN := gd.1
  have i1 := ix_lt (s := s) (p := p)
  have i2 := ix_lt (s := s) (p := q)
  have a := h.2.1 p hp hdp
  have b := h.2.1 q hq hdq
  unfold mX5_gap
  rw [rdI_n (by omega) (by omega), Option.bind_some, rdI_n (by omega) (by omega), Option.bind_some, rdI_n (by omega) (by omega), Option.bind_some, rdI_n (by omega) (by omega), Option.bind_some, far6, Option.bind_some, a.2.2.1, a.2.2.2, b.2.2.1, b.2.2.2,
    farE_n (ct_gd gd (s p)).1 (ct_gd gd (s q)).1 (ct_gd gd (s p)).2 (ct_gd gd (s q)).2]
  rfl
theorem gap9 {F N p q : Nat} {s X Y W : Nat → Nat} {w x y : Nat → Int32} (hF : 1000 ≤ F) (gd : GOOD N X Y W) (hP : ROWS N X Y W w x y) (hS : PART N s) (hp : p < N) (hq : q < N) :
    mX9_farther F (nI (s p)) (nI (s q)) (nI N) w x y = some (nI (gpB X Y W N s p q)) := by
  have hN := gd.1
  have ⟨a, _⟩ := part_24 hN hS hp
  have ⟨b, _⟩ := part_24 hN hS hq
  rw [farr9 hF gd hP (by omega) (wtB_pos (hS p hp).1 (gd.2.2.1 p hp).1 N hp) (by omega) (wtB_pos (hS q hq).1 (gd.2.2.1 q hq).1 N hq)]
  unfold farB
  rw [farE_n (ct_gd gd (s p)).1 (ct_gd gd (s q)).1 (ct_gd gd (s p)).2 (ct_gd gd (s q)).2]
  rfl
def nrB (g : Nat → Nat) (n : Nat) : Option Nat := bstB (fun _ => true) (fun a b => decide (g a < g b)) n
theorem nr_some {g : Nat → Nat} : ∀ {n}, 0 < n → ∃ b, nrB g n = some b := by
  intro n hn
  cases e : nrB g n with
  | some b => exact ⟨b, rfl⟩
  | none =>
    have := bstB_none.mp e 0 hn
    cases this
theorem near0 {F N n p : Nat} {s X Y W V : Nat → Nat} {cnt : Int32} {groupAt sets weights xs ys visible : Nat → Int32} (hF : 1000 ≤ F) (gd : GOOD N X Y W) (h : SCALE N s X Y W cnt groupAt sets weights xs ys) (hn : n ≤ 24) (hp : p < N) (hdp : hdB s p = true)
    (hV : ∀ k, k < n → V k < N ∧ hdB s (V k) = true ∧ visible k = nI (ixB s (V k))) : mX0_nearestTo F (nI (ixB s p)) (nI n) visible xs ys = some (oI (nrB (fun k => gpB X Y W N s p (V k)) n)) := by
  unfold mX0_nearestTo
  refine lp (fun k => (oI (nrB (fun k => gpB X Y W N s p (V k)) k), (match nrB (fun k => gpB X Y W N s p (V k)) k with | none => (0 : Int32) | some b => nI (gpB X Y W N s p (V b))), nI k)) 0 n _ (by omega) rfl (fun k _ hk => ?_) ?_ (by omega)
  · have ⟨v1, v2, v3⟩ := hV k hk
    have g5 := gap5 (F := F) gd h hp hdp v1 v2
    have hle : ¬ nI n ≤ nI k := by rw [nI_leE (by omega) (by omega)]; omega
    have l1 := gp_lt gd s p (V k)
    cases e : nrB (fun k => gpB X Y W N s p (V k)) k with
    | none =>
      have e2 : nrB (fun k => gpB X Y W N s p (V k)) (k + 1) = some k := bst_t rfl e
      rw [e2]
      show mX0_nearestTo_b8 F (nI (ixB s p)) (nI n) visible xs ys (-1) 0 (nI k) = some (.inl (nI k, nI (gpB X Y W N s p (V k)), nI (k + 1)))
      unfold mX0_nearestTo_b8
      rw [if_neg hle, rdI_n (by omega) (by omega), Option.bind_some, v3, g5, Option.bind_some, if_pos rfl, nI_1]
    | some b =>
      have ⟨b1, _⟩ := bstB_lt e
      have l2 := gp_lt gd s p (V b)
      by_cases c : gpB X Y W N s p (V k) < gpB X Y W N s p (V b)
      · have e2 : nrB (fun k => gpB X Y W N s p (V k)) (k + 1) = some k := bst_s rfl e (decide_eq_true c)
        rw [e2]
        show mX0_nearestTo_b8 F (nI (ixB s p)) (nI n) visible xs ys (nI b) (nI (gpB X Y W N s p (V b))) (nI k) = some (.inl (nI k, nI (gpB X Y W N s p (V k)), nI (k + 1)))
        unfold mX0_nearestTo_b8
        rw [if_neg hle, rdI_n (by omega) (by omega), Option.bind_some, v3, g5, Option.bind_some, if_neg (show ¬ nI b = -1 by rw [nI_m1 (by omega)]; exact id), if_neg (show ¬ nI (gpB X Y W N s p (V b)) ≤ nI (gpB X Y W N s p (V k)) by rw [nI_leE (by omega) (by omega)]; omega), nI_1]
      · have e2 : nrB (fun k => gpB X Y W N s p (V k)) (k + 1) = some b := bst_k rfl e (decide_eq_false c)
        rw [e2]
        show mX0_nearestTo_b8 F (nI (ixB s p)) (nI n) visible xs ys (nI b) (nI (gpB X Y W N s p (V b))) (nI k) = some (.inl (nI b, nI (gpB X Y W N s p (V b)), nI (k + 1)))
        unfold mX0_nearestTo_b8
        rw [if_neg hle, rdI_n (by omega) (by omega), Option.bind_some, v3, g5, Option.bind_some, if_neg (show ¬ nI b = -1 by rw [nI_m1 (by omega)]; exact id), if_pos (show nI (gpB X Y W N s p (V b)) ≤ nI (gpB X Y W N s p (V k)) by rw [nI_leE (by omega) (by omega)]; omega), nI_1]
  · unfold mX0_nearestTo_b8
    simp only []
    rw [if_pos (by rw [nI_leE (by omega) (by omega)]; omega)]
/-- whether none is within the room -/
def ckB (R : Nat) (g : Nat → Nat) (n : Nat) : Bool := decide (fstB (fun k => decide (g k ≤ R)) n = none)
theorem ck_iff {R : Nat} {g : Nat → Nat} {n : Nat} : ckB R g n = true ↔ ∀ k, k < n → R < g k := by
  unfold ckB
  rw [decide_eq_true_iff, fstB_none]
  exact ⟨fun h k hk => by have := of_decide_eq_false (h k hk); omega, fun h k hk => decide_eq_false (by have := h k hk; omega)⟩
theorem clear0 {F N n p R : Nat} {s X Y W V : Nat → Nat} {cnt : Int32} {groupAt sets weights xs ys visible : Nat → Int32} (hF : 1000 ≤ F) (gd : GOOD N X Y W) (h : SCALE N s X Y W cnt groupAt sets weights xs ys) (hn : n ≤ 24) (hp : p < N) (hdp : hdB s p = true) (hR : R < 2 ^ 30)
    (hV : ∀ k, k < n → V k < N ∧ hdB s (V k) = true ∧ visible k = nI (ixB s (V k))) : mX0_isClear F (nI (ixB s p)) (nI R) (nI n) visible xs ys = some (bI (ckB R (fun k => gpB X Y W N s p (V k)) n)) := by
  have nr := near0 (F := F) hF gd h hn hp hdp hV
  unfold mX0_isClear
  rw [nr, Option.bind_some]
  cases e : nrB (fun k => gpB X Y W N s p (V k)) n with
  | none =>
    have n0 : n = 0 := by
      refine Nat.eq_zero_of_not_pos (fun q => ?_)
      obtain ⟨b, hb⟩ := nr_some (g := fun k => gpB X Y W N s p (V k)) q
      rw [e] at hb
      cases hb
    rw [if_pos (show oI none = -1 from rfl), show ckB R (fun k => gpB X Y W N s p (V k)) n = true from ck_iff.mpr (fun k hk => by omega)]
    rfl
  | some b =>
    have ⟨b1, _, b3, _⟩ := bstB_some e
    have ⟨v1, v2, v3⟩ := hV b b1
    have l := gp_lt gd s p (V b)
    rw [show oI (some b) = nI b from rfl, if_neg (show ¬ nI b = -1 by rw [nI_m1 (by omega)]; exact id), rdI_n (by omega) (by omega), Option.bind_some, v3, gap5 gd h hp hdp v1 v2, Option.bind_some]
    by_cases c : gpB X Y W N s p (V b) ≤ R
    · rw [if_pos ((nI_leI (by omega) (by omega)).mpr c)]
      cases d : ckB R (fun k => gpB X Y W N s p (V k)) n with
      | false => rfl
      | true =>
        have := ck_iff.mp d b b1
        omega
    · rw [if_neg (fun q => c ((nI_leI (by omega) (by omega)).mp q)), show ckB R (fun k => gpB X Y W N s p (V k)) n = true from ck_iff.mpr (fun k hk => by have := b3 k hk rfl; omega)]
      rfl
/-- those shown of the first i by rank -/
def vsB (g : Nat → Nat → Nat) (L : Nat → Nat) (R : Nat) : Nat → Nat × (Nat → Nat)
  | 0 => (0, fun _ => 0)
  | i + 1 => if ckB R (fun k => g (L i) ((vsB g L R i).2 k)) (vsB g L R i).1 = true then ((vsB g L R i).1 + 1, fun k => if k = (vsB g L R i).1 then L i else (vsB g L R i).2 k) else vsB g L R i
theorem vs_spec {g : Nat → Nat → Nat} {L : Nat → Nat} {R : Nat} {P : Nat → Prop} : ∀ i, (∀ j, j < i → P (L j)) → (vsB g L R i).1 ≤ i ∧ (∀ k, k < (vsB g L R i).1 → P ((vsB g L R i).2 k)) ∧ (∀ a b, a < b → b < (vsB g L R i).1 → R < g ((vsB g L R i).2 b) ((vsB g L R i).2 a)) ∧ (0 < i → 0 < (vsB g L R i).1)
  | 0, _ => ⟨Nat.le_refl _, fun k hk => absurd hk (Nat.not_lt_zero _), fun a b _ hb => absurd hb (Nat.not_lt_zero _), fun h => absurd h (Nat.lt_irrefl _)⟩
  | i + 1, hL => by
    have ⟨a, b, c, d⟩ := vs_spec (g := g) (L := L) (R := R) (P := P) i (fun j hj => hL j (by omega))
    simp only [vsB]
    by_cases ck : ckB R (fun k => g (L i) ((vsB g L R i).2 k)) (vsB g L R i).1 = true
    · rw [if_pos ck]
      have ck2 := ck_iff.mp ck
      refine ⟨by simp only []; omega, fun k hk => ?_, fun p q hpq hq => ?_, fun _ => by simp only []; omega⟩
      · simp only [] at hk ⊢
        by_cases e : k = (vsB g L R i).1
        · rw [if_pos e]; exact hL i (by omega)
        · rw [if_neg e]; exact b k (by omega)
      · simp only [] at hq ⊢
        by_cases e : q = (vsB g L R i).1
        · rw [if_pos e, if_neg (by omega)]; exact ck2 p (by omega)
        · rw [if_neg e, if_neg (by omega)]; exact c p q hpq (by omega)
    · rw [if_neg ck]
      refine ⟨by omega, b, c, fun _ => ?_⟩
      by_cases e : 0 < (vsB g L R i).1
      · exact e
      · have z : (vsB g L R i).1 = 0 := by omega
        exact absurd (ck_iff.mpr (fun k hk => by rw [z] at hk; omega)) ck
/-- the groups shown of a zoom -/
def shB (X Y W : Nat → Nat) (N : Nat) (s : Nat → Nat) (R i : Nat) : Nat × (Nat → Nat) := vsB (gpB X Y W N s) (rlB s (wS W N s) N) R i
theorem lay0 {F N R : Nat} {s X Y W : Nat → Nat} {cnt : Int32} {groupAt sets weights xs ys : Nat → Int32} (hF : 1000 ≤ F) (gd : GOOD N X Y W) (hS : PART N s) (h : SCALE N s X Y W cnt groupAt sets weights xs ys) (hR : R < 2 ^ 30) (c : Int32) (holders visible : Nat → Int32) :
    ∃ r, mX0_lay F (nI R) c cnt holders visible weights xs ys = some r ∧ r.1 = nI (shB X Y W N s R (ixB s N)).1 ∧ (∀ k, k < (shB X Y W N s R (ixB s N)).1 → r.2.2 k = nI (ixB s ((shB X Y W N s R (ixB s N)).2 k))) ∧
      ∀ p, p < N → hdB s p = true → r.2.1 (ixB s p) = oI (nrB (fun k => gpB X Y W N s p ((shB X Y W N s R (ixB s N)).2 k)) (shB X Y W N s R (ixB s N)).1) := by
  have hN := gd.1
  have hW : ∀ i, i < N → W i ≤ 99 := fun i hi => (gd.2.2.1 i hi).2
  have ixN := ix_lt (s := s) (p := N)
  have ⟨ra, rb⟩ := rl_spec (s := s) (w := wS W N s) N
  have sp : ∀ i, i ≤ ixB s N → (shB X Y W N s R i).1 ≤ i ∧ (∀ k, k < (shB X Y W N s R i).1 → (shB X Y W N s R i).2 k < N ∧ hdB s ((shB X Y W N s R i).2 k) = true) := fun i hi => by
    have := vs_spec (g := gpB X Y W N s) (L := rlB s (wS W N s) N) (R := R) (P := fun p => p < N ∧ hdB s p = true) i (fun j hj => ra j (by omega))
    exact ⟨this.1, this.2.1⟩
  have hc : cnt = nI (ixB s N) := h.1
  have fi : mX6_first F cnt = some (nI (2 ^ ixB s N - 1)) := by unfold mX6_first; rw [hc, allN (by omega)]
  obtain ⟨v, ev, gv⟩ : ∃ v, loop (fun s16 : Int32 × Int32 × (Nat → Int32) => mX0_lay_b16 F (nI R) cnt weights xs ys (nI (2 ^ ixB s N - 1)) s16.1 s16.2.1 s16.2.2) F ((0 : Int32), (0 : Int32), visible) = some (nI (shB X Y W N s R (ixB s N)).1, v) ∧ ∀ k, k < (shB X Y W N s R (ixB s N)).1 → v k = nI (ixB s ((shB X Y W N s R (ixB s N)).2 k)) := by
    refine lpI (body := fun s16 : Int32 × Int32 × (Nat → Int32) => mX0_lay_b16 F (nI R) cnt weights xs ys (nI (2 ^ ixB s N - 1)) s16.1 s16.2.1 s16.2.2) (F := F) (fun i (v : Nat → Int32) => (nI i, nI (shB X Y W N s R i).1, v)) (fun i v => ∀ k, k < (shB X Y W N s R i).1 → v k = nI (ixB s ((shB X Y W N s R i).2 k))) 0 (ixB s N) (fun v => (nI (shB X Y W N s R (ixB s N)).1, v)) visible (by omega) (s0 := ((0 : Int32), (0 : Int32), visible)) rfl
      (fun k hk => absurd hk (Nat.not_lt_zero _)) (fun i v _ hi hI2 => ?_) (fun v _ => ?_) (by omega)
    · have ⟨s1, s2⟩ := sp i (by omega)
      have ⟨a1, a2⟩ := ra i hi
      have rk := rank5 (F := F) hF hN hW h hi
      have ixl := ix_lt (s := s) (p := rlB s (wS W N s) N i)
      have ck := clear0 (F := F) (R := R) hF gd h (show (shB X Y W N s R i).1 ≤ 24 by omega) a1 a2 hR (fun k hk => ⟨(s2 k hk).1, (s2 k hk).2, hI2 k hk⟩)
      have hle : ¬ nI (ixB s N) ≤ nI i := by rw [nI_leE (by omega) (by omega)]; omega
      have step : shB X Y W N s R (i + 1) = if ckB R (fun k => gpB X Y W N s (rlB s (wS W N s) N i) ((shB X Y W N s R i).2 k)) (shB X Y W N s R i).1 = true then ((shB X Y W N s R i).1 + 1, fun k => if k = (shB X Y W N s R i).1 then rlB s (wS W N s) N i else (shB X Y W N s R i).2 k) else shB X Y W N s R i := rfl
      cases e : ckB R (fun k => gpB X Y W N s (rlB s (wS W N s) N i) ((shB X Y W N s R i).2 k)) (shB X Y W N s R i).1 with
      | true =>
        rw [if_pos e] at step
        refine ⟨upd v (shB X Y W N s R i).1 (nI (ixB s (rlB s (wS W N s) N i))), ?_, ?_⟩
        · unfold mX0_lay_b16
          simp only []
          rw [hc, if_neg hle, ← hc, rk, Option.bind_some, if_neg (show ¬ nI (ixB s (rlB s (wS W N s) N i)) = -1 by rw [nI_m1 (by omega)]; exact id), ck, Option.bind_some, e, if_neg (by rw [k0T]; exact id), wrI_n (by omega) (by omega), Option.bind_some, nI_1, nI_1, Option.bind_some, step]
        · rw [step]
          intro k hk
          simp only [] at hk ⊢
          by_cases e2 : k = (shB X Y W N s R i).1
          · rw [e2, pk_us, if_pos rfl]
          · rw [pk_un e2, if_neg e2]; exact hI2 k (by omega)
      | false =>
        rw [if_neg (by rw [e]; decide)] at step
        refine ⟨v, ?_, by rw [step]; exact hI2⟩
        unfold mX0_lay_b16
        simp only []
        rw [hc, if_neg hle, ← hc, rk, Option.bind_some, if_neg (show ¬ nI (ixB s (rlB s (wS W N s) N i)) = -1 by rw [nI_m1 (by omega)]; exact id), ck, Option.bind_some, e, if_pos (by rw [k0F]; trivial), nI_1, step]
    · unfold mX0_lay_b16
      simp only []
      rw [hc, if_pos (by rw [nI_leE (by omega) (by omega)]; omega)]
  have ⟨s1, s2⟩ := sp (ixB s N) (Nat.le_refl _)
  have nr : ∀ p, p < N → hdB s p = true → mX0_nearestTo F (nI (ixB s p)) (nI (shB X Y W N s R (ixB s N)).1) v xs ys = some (oI (nrB (fun k => gpB X Y W N s p ((shB X Y W N s R (ixB s N)).2 k)) (shB X Y W N s R (ixB s N)).1)) :=
    fun p hp hd => near0 hF gd h (by omega) hp hd (fun k hk => ⟨(s2 k hk).1, (s2 k hk).2, gv k hk⟩)
  unfold mX0_lay
  rw [fi, Option.bind_some, ev, Option.bind_some]
  refine Exists.elim (lpI (body := fun s81 : Int32 × (Nat → Int32) => mX0_lay_b81 F cnt xs ys (nI (shB X Y W N s R (ixB s N)).1) v s81.1 s81.2) (F := F) (fun g (t : Nat → Int32) => (nI g, t)) (fun g t => ∀ p, p < N → hdB s p = true → ixB s p < g → t (ixB s p) = oI (nrB (fun k => gpB X Y W N s p ((shB X Y W N s R (ixB s N)).2 k)) (shB X Y W N s R (ixB s N)).1)) 0 (ixB s N) (fun t => (nI (shB X Y W N s R (ixB s N)).1, t, v)) holders (by omega) (s0 := ((0 : Int32), holders)) rfl
    (fun p _ _ hk => absurd hk (Nat.not_lt_zero _)) (fun g t _ hg hI2 => ?_) (fun t _ => ?_) (by omega)) (fun t ht => ⟨_, ht.1, rfl, gv, fun p hp hd => ht.2 p hp hd (ix_strict hd hp)⟩)
  · obtain ⟨p, p1, p2, p3⟩ := hd_ex (s := s) (N := N) hg
    have n1 := nr p p1 p2
    rw [p3] at n1
    refine ⟨upd t g (oI (nrB (fun k => gpB X Y W N s p ((shB X Y W N s R (ixB s N)).2 k)) (shB X Y W N s R (ixB s N)).1)), ?_, fun q hq hd hl => ?_⟩
    · unfold mX0_lay_b81
      rw [hc, if_neg (by rw [nI_leE (by omega) (by omega)]; omega), n1, Option.bind_some, wrI_n (by omega) (by omega), Option.bind_some, nI_1]
    · by_cases e : ixB s q = g
      · have : q = p := hd_uniq hd p2 (by omega)
        subst this
        rw [e, pk_us]
      · rw [pk_un e]; exact hI2 q hq hd (by omega)
  · unfold mX0_lay_b81
    rw [hc, if_pos (by rw [nI_leE (by omega) (by omega)]; omega)]
