/-! ===== PURE 16: pairs of now and of ahead ===== -/
theorem good_pl {N : Nat} {X Y W : Nat → Nat} (h : GOOD N X Y W) {p q : Nat} (hpq : p < q) (hq : q < N) : plB X Y p < plB X Y q := by
  have a := h.2.2.2 p q hpq hq
  have b := h.2.1 p (by omega)
  have c := h.2.1 q hq
  unfold plB
  omega
theorem good_ne {N : Nat} {X Y W : Nat → Nat} (h : GOOD N X Y W) {p q : Nat} (hp : p < N) (hq : q < N) (e : plB X Y p = plB X Y q) : p = q := by
  rcases Nat.lt_trichotomy p q with g | g | g
  · have := good_pl h g hq; omega
  · exact g
  · have := good_pl h g hp; omega
theorem pairB_eq {X Y K U V L : Nat → Nat} {i j : Nat} (a2 : plB X Y (fQ K i) < 1048576) (b2 : plB U V (fQ L j) < 1048576) :
    pairB X Y K i = pairB U V L j ↔ plB X Y (fP K i) = plB U V (fP L j) ∧ plB X Y (fQ K i) = plB U V (fQ L j) := by
  unfold pairB
  constructor
  · intro h; omega
  · intro h; rw [h.1, h.2]
theorem pairB_lt {N : Nat} {X Y K : Nat → Nat} {j : Nat} (hI : IN N X Y) (h : fP K j < N ∧ fQ K j < N) : pairB X Y K j < 2 ^ 40 := by
  have a := pl_lt hI h.1
  have b := pl_lt hI h.2
  unfold pairB
  omega
def hpB (B : Nat → Nat) (b n : Nat) : Bool := (fstB (fun j => decide (B j = b)) n).isSome
theorem hpB_iff {B : Nat → Nat} {b n : Nat} : hpB B b n = true ↔ ∃ j, j < n ∧ B j = b := by
  unfold hpB
  cases h : fstB (fun j => decide (B j = b)) n with
  | none =>
    have := fstB_none.mp h
    simp
    intro j hj
    simpa using this j hj
  | some k =>
    have ⟨a, c, _⟩ := fstB_some.mp h
    simp
    exact ⟨k, a, by simpa using c⟩
theorem hpB_succ {B : Nat → Nat} {b n : Nat} : hpB B b (n + 1) = (hpB B b n || decide (B n = b)) := by
  unfold hpB
  simp only [fstB]
  cases h : fstB (fun j => decide (B j = b)) n with
  | some k => rfl
  | none => by_cases e : B n = b <;> simp [e]
theorem lgc_eq (x y : Int64) : (lg_cmp x y = 0) = (x = y) := by
  apply propext
  unfold lg_cmp
  rcases lg_tri x y with h | h | h
  · rw [if_neg (lg_lt_not h), if_neg (lg_lt_ne h)]
    exact ⟨fun g => absurd g (by decide +kernel), fun g => absurd g (lg_lt_ne h)⟩
  · subst h
    simp
  · rw [if_pos h]
    exact ⟨fun g => absurd g (by decide +kernel), fun g => absurd g.symm (lg_lt_ne h)⟩
theorem hasPair2 {F n b : Nat} {B : Nat → Nat} {pairs : Nat → Int64} (hF : 1000 ≤ F) (hn : n ≤ 24) (hb : b < 2 ^ 63) (h : ∀ j, j < n → pairs j = lN (B j) ∧ B j < 2 ^ 63) : mX2_hasPair F (lN b) (nI n) pairs = some (bI (hpB B b n)) := by
  unfold mX2_hasPair
  refine (lpS nI (fun j => decide (B j = b)) n (fun _ => (1 : Int32)) (0 : Int32) rfl (fun k hk _ => ?_) (fun _ => ?_) (by omega)).trans ?_
  · have ⟨a, c⟩ := h k hk
    by_cases e : B k = b
    · simp (disch := omega) [mX2_hasPair_b2, Option.bind_some, nI_leE, nI_ltE, nI_eqE, nI_1, nI_add, rdI_n, rdL_n, wrI_n, wrL_n, has6b, has9b, bI_0, bI_1, nI_m1, nI_lt0, nI_le0, nI_0le, nI_eq0, leF, leT, ltF, ltT, eqF, lgc_eq, a, e]
    · have e2 : ¬ lN (B k) = lN b := by rw [lN_eqE c hb]; exact e
      simp (disch := omega) [mX2_hasPair_b2, Option.bind_some, nI_leE, nI_ltE, nI_eqE, nI_1, nI_add, rdI_n, rdL_n, wrI_n, wrL_n, has6b, has9b, bI_0, bI_1, nI_m1, nI_lt0, nI_le0, nI_0le, nI_eq0, leF, leT, ltF, ltT, eqF, lgc_eq, a, e, e2]
  · simp (disch := omega) [mX2_hasPair_b2, Option.bind_some, nI_leE, nI_ltE, nI_eqE, nI_1, nI_add, rdI_n, rdL_n, wrI_n, wrL_n, has6b, has9b, bI_0, bI_1, nI_m1, nI_lt0, nI_le0, nI_0le, nI_eq0, leF, leT, ltF, ltT, eqF]
  · unfold hpB
    cases fstB (fun j => decide (B j = b)) n <;> rfl
theorem unlike2 {F n m : Nat} {B C : Nat → Nat} {pairs qairs : Nat → Int64} (hF : 1000 ≤ F) (hn : n ≤ 24) (hm : m ≤ 24) (h : ∀ j, j < n → pairs j = lN (B j) ∧ B j < 2 ^ 63) (h2 : ∀ j, j < m → qairs j = lN (C j) ∧ C j < 2 ^ 63) :
    mX2_countUnlike F (nI n) (nI m) pairs qairs = some (nI (cntB (fun j => !hpB C (B j) m) n)) := by
  unfold mX2_countUnlike
  refine lp (fun k => (nI (cntB (fun j => !hpB C (B j) m) k), nI k)) 0 n _ (by omega) rfl (fun k _ hk => ?_) ?_ (by omega)
  · have ⟨a, c⟩ := h k hk
    have hp := hasPair2 (F := F) hF hm c h2
    cases e : hpB C (B k) m <;> simp (disch := omega) [mX2_countUnlike_b4, Option.bind_some, nI_leE, nI_ltE, nI_eqE, nI_1, nI_add, rdI_n, rdL_n, wrI_n, wrL_n, has6b, has9b, bI_0, bI_1, nI_m1, nI_lt0, nI_le0, nI_0le, nI_eq0, leF, leT, ltF, ltT, eqF, a, hp, e, cntB]
  · simp (disch := omega) [mX2_countUnlike_b4, Option.bind_some, nI_leE, nI_ltE, nI_eqE, nI_1, nI_add, rdI_n, rdL_n, wrI_n, wrL_n, has6b, has9b, bI_0, bI_1, nI_m1, nI_lt0, nI_le0, nI_0le, nI_eq0, leF, leT, ltF, ltT, eqF]
theorem place9 {F N p : Nat} {X Y : Nat → Nat} {xs ys : Nat → Int32} (hN : N ≤ 24) (hP : PT N X Y xs ys) (hp : p < N) : mX9_placeOf F (nI p) xs ys = some (nI (pn X Y p)) := by
  have ⟨p1, p2⟩ := hP p hp
  unfold pn
  simp (disch := omega) only [mX9_placeOf, rdI_n, Option.bind_some, p1, p2, c1024, pk_mul, nI_add]
theorem pn_lt {N p : Nat} {X Y : Nat → Nat} (hI : IN N X Y) (hp : p < N) : pn X Y p < 1048576 := by
  have := hI p hp
  unfold pn
  omega
theorem pn_pl {X Y U V : Nat → Nat} {p q : Nat} (h1 : X p < 1024 ∧ Y p < 1024) (h2 : U q < 1024 ∧ V q < 1024) : pn X Y p = pn U V q ↔ plB X Y p = plB U V q := by
  unfold pn plB
  omega
/-- both sides' pairs are alike where the numbers are -/
theorem same9 {F N M j k : Nat} {X Y W U V Z : Nat → Nat} {xs ys first second one other : Nat → Int32} (gN : GOOD N X Y W) (gM : GOOD M U V Z) (hP : PT N X Y xs ys) (hj : j < N - 1) (hk : k < M - 1)
    (h1 : first j = nI (fP (KK X Y N) j) ∧ second j = nI (fQ (KK X Y N) j)) (h2 : one k = nI (pn U V (fP (KK U V M) k)) ∧ other k = nI (pn U V (fQ (KK U V M) k))) :
    mX9_areSame F (nI j) (nI k) first second one other xs ys = some (bI (decide (pairB X Y (KK X Y N) j = pairB U V (KK U V M) k))) := by
  have ⟨a1, a2⟩ := KK_PQ (X := X) (Y := Y) gN.1 hj
  have ⟨b1, b2⟩ := KK_PQ (X := U) (Y := V) gM.1 hk
  have hN := gN.1
  have hM := gM.1
  have c1 := place9 (F := F) (p := fP (KK X Y N) j) hN hP (by omega)
  have c2 := place9 (F := F) (p := fQ (KK X Y N) j) hN hP a2
  have d1 := pn_lt (p := fP (KK X Y N) j) gN.2.1 (by omega)
  have d2 := pn_lt (p := fQ (KK X Y N) j) gN.2.1 a2
  have e1 := pn_lt (p := fP (KK U V M) k) gM.2.1 (by omega)
  have e2 := pn_lt (p := fQ (KK U V M) k) gM.2.1 b2
  have f1 := pl_lt gN.2.1 a2
  have f2 := pl_lt gM.2.1 b2
  have g1 := good_pl gN a1 a2
  have g2 := good_pl gM b1 b2
  have i1 := gN.2.1 (fP (KK X Y N) j) (by omega)
  have i2 := gN.2.1 (fQ (KK X Y N) j) a2
  have j1 := gM.2.1 (fP (KK U V M) k) (by omega)
  have j2 := gM.2.1 (fQ (KK U V M) k) b2
  have q11 := pn_pl i1 j1
  have q12 := pn_pl i1 j2
  have q21 := pn_pl i2 j1
  have q22 := pn_pl i2 j2
  have hne : ¬ (pn X Y (fP (KK X Y N) j) = pn U V (fQ (KK U V M) k) ∧ pn X Y (fQ (KK X Y N) j) = pn U V (fP (KK U V M) k)) := by
    rw [q12, q21]
    omega
  have hj44 : mX9_areSame_j44 F (nI k) one other (nI (pn X Y (fP (KK X Y N) j))) (nI (pn X Y (fQ (KK X Y N) j))) = some 0 := by
    unfold mX9_areSame_j44
    simp (disch := omega) only [rdI_n, Option.bind_some, h2.1, h2.2, nI_eqE]
    by_cases r : pn X Y (fP (KK X Y N) j) = pn U V (fQ (KK U V M) k)
    · rw [if_pos r, if_neg (fun s => hne ⟨r, s⟩)]
    · rw [if_neg r]
  unfold mX9_areSame
  simp (disch := omega) only [rdI_n, Option.bind_some, h1.1, h1.2, c1, c2, h2.1, h2.2, nI_eqE, hj44]
  have hd : decide (pairB X Y (KK X Y N) j = pairB U V (KK U V M) k) = decide (pn X Y (fP (KK X Y N) j) = pn U V (fP (KK U V M) k) ∧ pn X Y (fQ (KK X Y N) j) = pn U V (fQ (KK U V M) k)) :=
    decide_eq_decide.mpr (by rw [pairB_eq f1 f2, q11, q22])
  rw [hd]
  by_cases r : pn X Y (fP (KK X Y N) j) = pn U V (fP (KK U V M) k)
  · rw [if_pos r]
    by_cases s : pn X Y (fQ (KK X Y N) j) = pn U V (fQ (KK U V M) k)
    · rw [if_pos s]; simp [r, s, bI]
    · rw [if_neg s]; simp [s, bI]
  · rw [if_neg r]; simp [r, bI]
theorem hpB_flip {B : Nat → Nat} {b n : Nat} : (match fstB (fun k => decide (b = B k)) n with | some _ => (0 : Int32) | none => (1 : Int32)) = bI (!hpB B b n) := by
  have e : fstB (fun k => decide (b = B k)) n = fstB (fun k => decide (B k = b)) n := fstB_congr (fun k hk => decide_eq_decide.mpr ⟨Eq.symm, Eq.symm⟩)
  rw [e]
  unfold hpB
  cases fstB (fun k => decide (B k = b)) n <;> rfl
/-- what the law of pairs needs of both sides' rows -/
def BOTH (N M : Nat) (X Y U V : Nat → Nat) (xs ys first second one other : Nat → Int32) : Prop :=
  PT N X Y xs ys ∧ (∀ j, j < N - 1 → first j = nI (fP (KK X Y N) j) ∧ second j = nI (fQ (KK X Y N) j)) ∧ ∀ k, k < M - 1 → one k = nI (pn U V (fP (KK U V M) k)) ∧ other k = nI (pn U V (fQ (KK U V M) k))
theorem isNew9 {F N M j : Nat} {X Y W U V Z : Nat → Nat} {xs ys first second one other : Nat → Int32} (hF : 1000 ≤ F) (gN : GOOD N X Y W) (gM : GOOD M U V Z) (hB : BOTH N M X Y U V xs ys first second one other) (hj : j < N - 1) :
    mX9_isNew F (nI j) (nI M) 1 first second one other xs ys = some (bI (!hpB (pairB U V (KK U V M)) (pairB X Y (KK X Y N) j) (M - 1))) := by
  have hM := gM.1
  have w9 := wasJoins9 (F := F) hM
  unfold mX9_isNew
  rw [if_neg (by decide +kernel)]
  refine (lpS nI (fun k => decide (pairB X Y (KK X Y N) j = pairB U V (KK U V M) k)) (M - 1) (fun _ => (0 : Int32)) (1 : Int32) rfl (fun k hk _ => ?_) (fun _ => ?_) (by omega)).trans ?_
  · have s := same9 (F := F) gN gM hB.1 hj hk (hB.2.1 j hj) (hB.2.2 k hk)
    by_cases e : pairB X Y (KK X Y N) j = pairB U V (KK U V M) k <;> simp (disch := omega) [mX9_isNew_b11, Option.bind_some, nI_leE, nI_ltE, nI_eqE, nI_1, nI_add, rdI_n, rdL_n, wrI_n, wrL_n, has6b, has9b, bI_0, bI_1, nI_m1, nI_lt0, nI_le0, nI_0le, nI_eq0, leF, leT, ltF, ltT, eqF, w9, s, e]
  · simp (disch := omega) [mX9_isNew_b11, Option.bind_some, nI_leE, nI_ltE, nI_eqE, nI_1, nI_add, rdI_n, rdL_n, wrI_n, wrL_n, has6b, has9b, bI_0, bI_1, nI_m1, nI_lt0, nI_le0, nI_0le, nI_eq0, leF, leT, ltF, ltT, eqF, w9]
  · exact congrArg some hpB_flip
theorem newOnes9 {F N M : Nat} {X Y W U V Z : Nat → Nat} {xs ys first second one other : Nat → Int32} (hF : 1000 ≤ F) (gN : GOOD N X Y W) (gM : GOOD M U V Z) (hB : BOTH N M X Y U V xs ys first second one other) {r : Int32} (hr : r = 0 ∧ N = 0 ∧ M = 0 ∨ r = 1) :
    mX9_newOnes F (nI N) (nI M) r first second one other xs ys = some (nI (cntB (fun j => !hpB (pairB U V (KK U V M)) (pairB X Y (KK X Y N) j) (M - 1)) (N - 1))) := by
  have hN := gN.1
  have j9 := joins9 (F := F) hN
  unfold mX9_newOnes
  refine lp (fun k => (nI (cntB (fun j => !hpB (pairB U V (KK U V M)) (pairB X Y (KK X Y N) j) (M - 1)) k), nI k)) 0 (N - 1) _ (by omega) rfl (fun k _ hk => ?_) ?_ (by omega)
  · have hr1 : r = 1 := hr.resolve_left (by omega)
    subst hr1
    have s := isNew9 (F := F) hF gN gM hB hk
    cases e : hpB (pairB U V (KK U V M)) (pairB X Y (KK X Y N) k) (M - 1) <;> simp (disch := omega) [mX9_newOnes_b4, Option.bind_some, nI_leE, nI_ltE, nI_eqE, nI_1, nI_add, rdI_n, rdL_n, wrI_n, wrL_n, has6b, has9b, bI_0, bI_1, nI_m1, nI_lt0, nI_le0, nI_0le, nI_eq0, leF, leT, ltF, ltT, eqF, j9, s, e, cntB]
  · simp (disch := omega) [mX9_newOnes_b4, Option.bind_some, nI_leE, nI_ltE, nI_eqE, nI_1, nI_add, rdI_n, rdL_n, wrI_n, wrL_n, has6b, has9b, bI_0, bI_1, nI_m1, nI_lt0, nI_le0, nI_0le, nI_eq0, leF, leT, ltF, ltT, eqF, j9]
theorem isGone9 {F N M k : Nat} {X Y W U V Z : Nat → Nat} {xs ys first second one other : Nat → Int32} (hF : 1000 ≤ F) (gN : GOOD N X Y W) (gM : GOOD M U V Z) (hB : BOTH N M X Y U V xs ys first second one other) (hk : k < M - 1) :
    mX9_isGone F (nI k) (nI N) first second one other xs ys = some (bI (!hpB (pairB X Y (KK X Y N)) (pairB U V (KK U V M) k) (N - 1))) := by
  have hM := gM.1
  have hN := gN.1
  have j9 := joins9 (F := F) hN
  unfold mX9_isGone
  refine (lpS nI (fun j => decide (pairB X Y (KK X Y N) j = pairB U V (KK U V M) k)) (N - 1) (fun _ => (0 : Int32)) (1 : Int32) rfl (fun j hj _ => ?_) (fun _ => ?_) (by omega)).trans ?_
  · have s := same9 (F := F) gN gM hB.1 hj hk (hB.2.1 j hj) (hB.2.2 k hk)
    by_cases e : pairB X Y (KK X Y N) j = pairB U V (KK U V M) k <;> simp (disch := omega) [mX9_isGone_b2, Option.bind_some, nI_leE, nI_ltE, nI_eqE, nI_1, nI_add, rdI_n, rdL_n, wrI_n, wrL_n, has6b, has9b, bI_0, bI_1, nI_m1, nI_lt0, nI_le0, nI_0le, nI_eq0, leF, leT, ltF, ltT, eqF, j9, s, e]
  · simp (disch := omega) [mX9_isGone_b2, Option.bind_some, nI_leE, nI_ltE, nI_eqE, nI_1, nI_add, rdI_n, rdL_n, wrI_n, wrL_n, has6b, has9b, bI_0, bI_1, nI_m1, nI_lt0, nI_le0, nI_0le, nI_eq0, leF, leT, ltF, ltT, eqF, j9]
  · unfold hpB
    cases fstB (fun j => decide (pairB X Y (KK X Y N) j = pairB U V (KK U V M) k)) (N - 1) <;> rfl
theorem gone9 {F N M : Nat} {X Y W U V Z : Nat → Nat} {xs ys first second one other wide : Nat → Int32} (hF : 1000 ≤ F) (gN : GOOD N X Y W) (gM : GOOD M U V Z) (hB : BOTH N M X Y U V xs ys first second one other) {r : Int32} (hr : r = 0 ∧ N = 0 ∧ M = 0 ∨ r = 1) :
    mX9_goneOnes F 0 (nI N) (nI M) r first second one other wide xs ys = some (nI (cntB (fun k => !hpB (pairB X Y (KK X Y N)) (pairB U V (KK U V M) k) (N - 1)) (M - 1))) := by
  have hM := gM.1
  have w9 := wasJoins9 (F := F) hM
  unfold mX9_goneOnes
  refine lp (fun k => (nI (cntB (fun k => !hpB (pairB X Y (KK X Y N)) (pairB U V (KK U V M) k) (N - 1)) k), nI k)) 0 (M - 1) _ (by omega) rfl (fun k _ hk => ?_) ?_ (by omega)
  · have hr1 : r = 1 := hr.resolve_left (by omega)
    subst hr1
    have s := isGone9 (F := F) hF gN gM hB hk
    cases e : hpB (pairB X Y (KK X Y N)) (pairB U V (KK U V M) k) (N - 1) <;> simp (disch := omega) [mX9_goneOnes_b4, Option.bind_some, nI_leE, nI_ltE, nI_eqE, nI_1, nI_add, rdI_n, rdL_n, wrI_n, wrL_n, has6b, has9b, bI_0, bI_1, nI_m1, nI_lt0, nI_le0, nI_0le, nI_eq0, leF, leT, ltF, ltT, eqF, w9, s, e, cntB]
  · simp (disch := omega) [mX9_goneOnes_b4, Option.bind_some, nI_leE, nI_ltE, nI_eqE, nI_1, nI_add, rdI_n, rdL_n, wrI_n, wrL_n, has6b, has9b, bI_0, bI_1, nI_m1, nI_lt0, nI_le0, nI_0le, nI_eq0, leF, leT, ltF, ltT, eqF, w9]
theorem goneA9 {F N M : Nat} {X Y W U V Z : Nat → Nat} {xs ys first second one other wide : Nat → Int32} (hF : 1000 ≤ F) (gN : GOOD N X Y W) (gM : GOOD M U V Z) (hB : BOTH N M X Y U V xs ys first second one other) {r : Int32} (hr : r = 0 ∧ N = 0 ∧ M = 0 ∨ r = 1)
    {A : Nat → Nat} (hA : ∀ k, k < M - 1 → wide k = nI (A k)) :
    mX9_goneOnes F 1 (nI N) (nI M) r first second one other wide xs ys = some (nI (sumB (fun k => if hpB (pairB X Y (KK X Y N)) (pairB U V (KK U V M) k) (N - 1) = true then 0 else A k) (M - 1))) := by
  have hM := gM.1
  have w9 := wasJoins9 (F := F) hM
  unfold mX9_goneOnes
  refine lp (fun k => (nI (sumB (fun k => if hpB (pairB X Y (KK X Y N)) (pairB U V (KK U V M) k) (N - 1) = true then 0 else A k) k), nI k)) 0 (M - 1) _ (by omega) rfl (fun k _ hk => ?_) ?_ (by omega)
  · have hr1 : r = 1 := hr.resolve_left (by omega)
    subst hr1
    have s := isGone9 (F := F) hF gN gM hB hk
    have a := hA k hk
    cases e : hpB (pairB X Y (KK X Y N)) (pairB U V (KK U V M) k) (N - 1) <;> simp (disch := omega) [mX9_goneOnes_b4, Option.bind_some, nI_leE, nI_ltE, nI_eqE, nI_1, nI_add, rdI_n, rdL_n, wrI_n, wrL_n, has6b, has9b, bI_0, bI_1, nI_m1, nI_lt0, nI_le0, nI_0le, nI_eq0, leF, leT, ltF, ltT, eqF, w9, s, e, a, sumB]
  · simp (disch := omega) [mX9_goneOnes_b4, Option.bind_some, nI_leE, nI_ltE, nI_eqE, nI_1, nI_add, rdI_n, rdL_n, wrI_n, wrL_n, has6b, has9b, bI_0, bI_1, nI_m1, nI_lt0, nI_le0, nI_0le, nI_eq0, leF, leT, ltF, ltT, eqF, w9]
theorem newA9 {F N M : Nat} {X Y W U V Z : Nat → Nat} {xs ys first second one other wide : Nat → Int32} (hF : 1000 ≤ F) (gN : GOOD N X Y W) (gM : GOOD M U V Z) (hB : BOTH N M X Y U V xs ys first second one other) {r : Int32} (hr : r = 0 ∧ N = 0 ∧ M = 0 ∨ r = 1)
    {A : Nat → Nat} (hA : ∀ k, k < N - 1 → wide k = nI (A k)) :
    loop (fun s47 : Int32 × Int32 => mX9_repaired_b47 F (nI N) (nI M) r first second one other wide xs ys s47.1 s47.2) F ((0 : Int32), (0 : Int32)) = some (nI (sumB (fun j => if hpB (pairB U V (KK U V M)) (pairB X Y (KK X Y N) j) (M - 1) = true then 0 else A j) (N - 1))) := by
  have hN := gN.1
  have j9 := joins9 (F := F) hN
  refine lp (fun k => (nI (sumB (fun j => if hpB (pairB U V (KK U V M)) (pairB X Y (KK X Y N) j) (M - 1) = true then 0 else A j) k), nI k)) 0 (N - 1) _ (by omega) rfl (fun k _ hk => ?_) ?_ (by omega)
  · have hr1 : r = 1 := hr.resolve_left (by omega)
    subst hr1
    have s := isNew9 (F := F) hF gN gM hB hk
    have a := hA k hk
    cases e : hpB (pairB U V (KK U V M)) (pairB X Y (KK X Y N) k) (M - 1) <;> simp (disch := omega) [mX9_repaired_b47, Option.bind_some, nI_leE, nI_ltE, nI_eqE, nI_1, nI_add, rdI_n, rdL_n, wrI_n, wrL_n, has6b, has9b, bI_0, bI_1, nI_m1, nI_lt0, nI_le0, nI_0le, nI_eq0, leF, leT, ltF, ltT, eqF, j9, s, e, a, sumB]
  · simp (disch := omega) [mX9_repaired_b47, Option.bind_some, nI_leE, nI_ltE, nI_eqE, nI_1, nI_add, rdI_n, rdL_n, wrI_n, wrL_n, has6b, has9b, bI_0, bI_1, nI_m1, nI_lt0, nI_le0, nI_0le, nI_eq0, leF, leT, ltF, ltT, eqF, j9]
def sfB (B C : Nat → Nat) (l : Nat) : Nat := match fstB (fun k => decide (B k ≠ C k)) l with
  | some k => k
  | none => l
theorem same2 {F n m : Nat} {B C : Nat → Nat} {pairs qairs : Nat → Int64} (hF : 1000 ≤ F) (hn : n ≤ 24) (hm : m ≤ 24) (h : ∀ j, j < n → pairs j = lN (B j) ∧ B j < 2 ^ 63) (h2 : ∀ j, j < m → qairs j = lN (C j) ∧ C j < 2 ^ 63) :
    mX2_sameFromFirst F (nI n) (nI m) pairs qairs = some (nI (sfB B C (min n m))) := by
  unfold mX2_sameFromFirst
  refine (lpS nI (fun k => decide (B k ≠ C k)) (min n m) nI (nI (min n m)) rfl (fun k hk _ => ?_) (fun _ => ?_) (by omega)).trans ?_
  · have ⟨a, c⟩ := h k (by omega)
    have ⟨a2, c2⟩ := h2 k (by omega)
    by_cases e : B k = C k
    · simp (disch := omega) [mX2_sameFromFirst_b2, Option.bind_some, nI_leE, nI_ltE, nI_eqE, nI_1, nI_add, rdI_n, rdL_n, wrI_n, wrL_n, has6b, has9b, bI_0, bI_1, nI_m1, nI_lt0, nI_le0, nI_0le, nI_eq0, leF, leT, ltF, ltT, eqF, lgc_eq, a, a2, e]
    · have e2 : ¬ lN (B k) = lN (C k) := by rw [lN_eqE c c2]; exact e
      simp (disch := omega) [mX2_sameFromFirst_b2, Option.bind_some, nI_leE, nI_ltE, nI_eqE, nI_1, nI_add, rdI_n, rdL_n, wrI_n, wrL_n, has6b, has9b, bI_0, bI_1, nI_m1, nI_lt0, nI_le0, nI_0le, nI_eq0, leF, leT, ltF, ltT, eqF, lgc_eq, a, a2, e, e2]
  · rcases Nat.le_total n m with g | g
    · rw [Nat.min_eq_left g]; simp (disch := omega) [mX2_sameFromFirst_b2, Option.bind_some, nI_leE, nI_ltE, nI_eqE, nI_1, nI_add, rdI_n, rdL_n, wrI_n, wrL_n, has6b, has9b, bI_0, bI_1, nI_m1, nI_lt0, nI_le0, nI_0le, nI_eq0, leF, leT, ltF, ltT, eqF]
    · rw [Nat.min_eq_right g]
      by_cases g2 : n ≤ m
      · simp (disch := omega) [mX2_sameFromFirst_b2, Option.bind_some, nI_leE, nI_ltE, nI_eqE, nI_1, nI_add, rdI_n, rdL_n, wrI_n, wrL_n, has6b, has9b, bI_0, bI_1, nI_m1, nI_lt0, nI_le0, nI_0le, nI_eq0, leF, leT, ltF, ltT, eqF]
      · simp (disch := omega) [mX2_sameFromFirst_b2, Option.bind_some, nI_leE, nI_ltE, nI_eqE, nI_1, nI_add, rdI_n, rdL_n, wrI_n, wrL_n, has6b, has9b, bI_0, bI_1, nI_m1, nI_lt0, nI_le0, nI_0le, nI_eq0, leF, leT, ltF, ltT, eqF]
  · unfold sfB
    cases fstB (fun k => decide (B k ≠ C k)) (min n m) <;> rfl
theorem asWere9 {F N M : Nat} {X Y W U V Z : Nat → Nat} {xs ys first second one other : Nat → Int32} (hF : 1000 ≤ F) (gN : GOOD N X Y W) (gM : GOOD M U V Z) (hB : BOTH N M X Y U V xs ys first second one other) {r : Int32} (hr : r = 0 ∧ N = 0 ∧ M = 0 ∨ r = 1) :
    mX9_asTheyWere F (nI N) (nI M) r first second one other xs ys = some (nI (sfB (pairB X Y (KK X Y N)) (pairB U V (KK U V M)) (min (N - 1) (M - 1)))) := by
  have hN := gN.1
  have hM := gM.1
  have j9 := joins9 (F := F) hN
  have w9 := wasJoins9 (F := F) hM
  unfold mX9_asTheyWere
  refine (lpS nI (fun k => decide (pairB X Y (KK X Y N) k ≠ pairB U V (KK U V M) k)) (min (N - 1) (M - 1)) nI (nI (min (N - 1) (M - 1))) rfl (fun k hk _ => ?_) (fun _ => ?_) (by omega)).trans ?_
  · have hr1 : r = 1 := hr.resolve_left (by omega)
    subst hr1
    have s := same9 (F := F) gN gM hB.1 (show k < N - 1 by omega) (show k < M - 1 by omega) (hB.2.1 k (by omega)) (hB.2.2 k (by omega))
    by_cases e : pairB X Y (KK X Y N) k = pairB U V (KK U V M) k <;> simp (disch := omega) [mX9_asTheyWere_b2, Option.bind_some, nI_leE, nI_ltE, nI_eqE, nI_1, nI_add, rdI_n, rdL_n, wrI_n, wrL_n, has6b, has9b, bI_0, bI_1, nI_m1, nI_lt0, nI_le0, nI_0le, nI_eq0, leF, leT, ltF, ltT, eqF, j9, w9, s, e]
  · by_cases q : r = 0
    · simp (disch := omega) [mX9_asTheyWere_b2, Option.bind_some, nI_leE, nI_ltE, nI_eqE, nI_1, nI_add, rdI_n, rdL_n, wrI_n, wrL_n, has6b, has9b, bI_0, bI_1, nI_m1, nI_lt0, nI_le0, nI_0le, nI_eq0, leF, leT, ltF, ltT, eqF, q]
    · rcases Nat.le_total (N - 1) (M - 1) with g | g
      · rw [Nat.min_eq_left g]; simp (disch := omega) [mX9_asTheyWere_b2, Option.bind_some, nI_leE, nI_ltE, nI_eqE, nI_1, nI_add, rdI_n, rdL_n, wrI_n, wrL_n, has6b, has9b, bI_0, bI_1, nI_m1, nI_lt0, nI_le0, nI_0le, nI_eq0, leF, leT, ltF, ltT, eqF, j9, w9, q]
      · rw [Nat.min_eq_right g]
        by_cases g2 : N - 1 ≤ M - 1
        · simp (disch := omega) [mX9_asTheyWere_b2, Option.bind_some, nI_leE, nI_ltE, nI_eqE, nI_1, nI_add, rdI_n, rdL_n, wrI_n, wrL_n, has6b, has9b, bI_0, bI_1, nI_m1, nI_lt0, nI_le0, nI_0le, nI_eq0, leF, leT, ltF, ltT, eqF, j9, w9, q]
        · simp (disch := omega) [mX9_asTheyWere_b2, Option.bind_some, nI_leE, nI_ltE, nI_eqE, nI_1, nI_add, rdI_n, rdL_n, wrI_n, wrL_n, has6b, has9b, bI_0, bI_1, nI_m1, nI_lt0, nI_le0, nI_0le, nI_eq0, leF, leT, ltF, ltT, eqF, j9, w9, q]
  · unfold sfB
    cases fstB (fun k => decide (pairB X Y (KK X Y N) k ≠ pairB U V (KK U V M) k)) (min (N - 1) (M - 1)) <;> rfl
/-- sums over what both have -/
theorem sumB_add {f g : Nat → Nat} : ∀ n, sumB (fun k => f k + g k) n = sumB f n + sumB g n
  | 0 => rfl
  | n + 1 => by simp only [sumB]; rw [sumB_add n]; omega
theorem sumB_0 : ∀ n, sumB (fun _ => 0) n = 0
  | 0 => rfl
  | n + 1 => by simp only [sumB]; rw [sumB_0 n]
theorem sumB_swap {f : Nat → Nat → Nat} {m : Nat} : ∀ n, sumB (fun j => sumB (fun k => f j k) m) n = sumB (fun k => sumB (fun j => f j k) n) m
  | 0 => by simp only [sumB]; exact (sumB_0 m).symm
  | n + 1 => by simp only [sumB]; rw [sumB_swap n, ← sumB_add]
theorem sum_one {B : Nat → Nat} {b c : Nat} : ∀ {m}, (∀ i j, i < j → j < m → B i ≠ B j) → sumB (fun k => if B k = b then c else 0) m = if hpB B b m = true then c else 0
  | 0, _ => by simp [sumB, hpB, fstB]
  | m + 1, h => by
    simp only [sumB]
    rw [sum_one (m := m) (fun i j h1 h2 => h i j h1 (by omega)), hpB_succ]
    by_cases e : B m = b
    · have : hpB B b m = false := by
        cases g : hpB B b m with
        | false => rfl
        | true =>
          obtain ⟨j, j1, j2⟩ := hpB_iff.mp g
          exact absurd (j2.trans e.symm) (h j m j1 (by omega))
      simp [e, this]
    · simp [e]
theorem sum_both {B C f : Nat → Nat} {n m : Nat} (hB : ∀ i j, i < j → j < n → B i ≠ B j) (hC : ∀ i j, i < j → j < m → C i ≠ C j) :
    sumB (fun j => if hpB C (B j) m = true then f (B j) else 0) n = sumB (fun k => if hpB B (C k) n = true then f (C k) else 0) m := by
  have e1 : sumB (fun j => if hpB C (B j) m = true then f (B j) else 0) n = sumB (fun j => sumB (fun k => if C k = B j then f (B j) else 0) m) n := sumB_congr (fun j hj => (sum_one hC).symm)
  have e2 : sumB (fun k => if hpB B (C k) n = true then f (C k) else 0) m = sumB (fun k => sumB (fun j => if B j = C k then f (C k) else 0) n) m := sumB_congr (fun k hk => (sum_one hB).symm)
  rw [e1, e2, sumB_swap]
  refine sumB_congr (fun k hk => sumB_congr (fun j hj => ?_))
  by_cases e : C k = B j
  · rw [if_pos e, if_pos e.symm, e]
  · rw [if_neg e, if_neg (Ne.symm e)]
theorem nI_subE {a b c d : Nat} (h : a + d = c + b) : nI a - nI b = nI c - nI d := by
  have e : nI a + nI d = nI c + nI b := by rw [nI_add, nI_add, h]
  have e1 : nI a - nI b = (nI a + nI d) - nI d - nI b := by rw [Int32.add_sub_cancel]
  rw [e1, e, Int32.sub_sub, Int32.add_comm (nI d) (nI b), ← Int32.sub_sub, Int32.add_sub_cancel]
/-- how far apart, by the number of a pair of places -/
def apn (b : Nat) : Nat := dst (b / 1048576 / 1024) (b % 1048576 / 1024) * dst (b / 1048576 / 1024) (b % 1048576 / 1024) + dst (b / 1048576 % 1024) (b % 1048576 % 1024) * dst (b / 1048576 % 1024) (b % 1048576 % 1024)
theorem apn_pair {N j : Nat} {X Y : Nat → Nat} (hN : N ≤ 24) (hI : IN N X Y) (hj : j < N - 1) : KK X Y N j / 1024 = apn (pairB X Y (KK X Y N) j) := by
  have ⟨a1, a2, a3, a4⟩ := isK_spec hN (KK_isK (X := X) (Y := Y) hN hj)
  have b1 := hI (fP (KK X Y N) j) (by unfold fP; omega)
  have b2 := hI (fQ (KK X Y N) j) a2
  have e1 : pairB X Y (KK X Y N) j / 1048576 / 1024 = X (fP (KK X Y N) j) := by unfold pairB plB; omega
  have e2 : pairB X Y (KK X Y N) j % 1048576 / 1024 = X (fQ (KK X Y N) j) := by unfold pairB plB; omega
  have e3 : pairB X Y (KK X Y N) j / 1048576 % 1024 = Y (fP (KK X Y N) j) := by unfold pairB plB; omega
  have e4 : pairB X Y (KK X Y N) j % 1048576 % 1024 = Y (fQ (KK X Y N) j) := by unfold pairB plB; omega
  unfold apn
  rw [e1, e2, e3, e4, a4]
  rfl
theorem pair_inj {N : Nat} {X Y W : Nat → Nat} (g : GOOD N X Y W) {i j : Nat} (hij : i < j) (hj : j < N - 1) : pairB X Y (KK X Y N) i ≠ pairB X Y (KK X Y N) j := by
  intro e
  have ⟨a1, a2⟩ := KK_lt (X := X) (Y := Y) g.1 (show i < N - 1 by omega)
  have ⟨b1, b2⟩ := KK_lt (X := X) (Y := Y) g.1 hj
  have ⟨q1, q2⟩ := (pairB_eq (pl_lt g.2.1 a2) (pl_lt g.2.1 b2)).mp e
  have r1 := good_ne g a1 b1 q1
  have r2 := good_ne g a2 b2 q2
  have ⟨_, _, c3, _⟩ := isK_spec g.1 (KK_isK (X := X) (Y := Y) g.1 (show i < N - 1 by omega))
  have ⟨_, _, d3, _⟩ := isK_spec g.1 (KK_isK (X := X) (Y := Y) g.1 hj)
  have c4 : KK X Y N i = kf X Y (fP (KK X Y N) i) (fQ (KK X Y N) i) := c3
  have d4 : KK X Y N j = kf X Y (fP (KK X Y N) j) (fQ (KK X Y N) j) := d3
  exact KK_inj g.1 hij hj (by rw [c4, d4, r1, r2])
/-- the difference of sums is the difference of what only one has -/
theorem diff_sum {N M : Nat} {X Y W U V Z : Nat → Nat} (gN : GOOD N X Y W) (gM : GOOD M U V Z) :
    nI (sumB (fun j => if hpB (pairB U V (KK U V M)) (pairB X Y (KK X Y N) j) (M - 1) = true then 0 else KK X Y N j / 1024) (N - 1)) - nI (sumB (fun k => if hpB (pairB X Y (KK X Y N)) (pairB U V (KK U V M) k) (N - 1) = true then 0 else KK U V M k / 1024) (M - 1)) =
    nI (sumB (fun j => KK X Y N j / 1024) (N - 1)) - nI (sumB (fun k => KK U V M k / 1024) (M - 1)) := by
  have sb := sum_both (B := pairB X Y (KK X Y N)) (C := pairB U V (KK U V M)) (f := apn) (n := N - 1) (m := M - 1) (fun i j h1 h2 => pair_inj gN h1 h2) (fun i j h1 h2 => pair_inj gM h1 h2)
  have e1 : sumB (fun j => KK X Y N j / 1024) (N - 1) = sumB (fun j => if hpB (pairB U V (KK U V M)) (pairB X Y (KK X Y N) j) (M - 1) = true then 0 else KK X Y N j / 1024) (N - 1) + sumB (fun j => if hpB (pairB U V (KK U V M)) (pairB X Y (KK X Y N) j) (M - 1) = true then apn (pairB X Y (KK X Y N) j) else 0) (N - 1) := by
    rw [← sumB_add]
    refine sumB_congr (fun j hj => ?_)
    rw [← apn_pair gN.1 gN.2.1 hj]
    split <;> omega
  have e2 : sumB (fun k => KK U V M k / 1024) (M - 1) = sumB (fun k => if hpB (pairB X Y (KK X Y N)) (pairB U V (KK U V M) k) (N - 1) = true then 0 else KK U V M k / 1024) (M - 1) + sumB (fun k => if hpB (pairB X Y (KK X Y N)) (pairB U V (KK U V M) k) (N - 1) = true then apn (pairB U V (KK U V M) k) else 0) (M - 1) := by
    rw [← sumB_add]
    refine sumB_congr (fun j hj => ?_)
    rw [← apn_pair gM.1 gM.2.1 hj]
    split <;> omega
  refine nI_subE ?_
  omega
