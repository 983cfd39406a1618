/-! ===== PURE 14: leaves: nearest points, ranks, heaviest, widest ===== -/
theorem bst_f {p : Nat → Bool} {lt : Nat → Nat → Bool} {n : Nat} (h : p n = false) : bstB p lt (n + 1) = bstB p lt n := if_neg (by rw [h]; decide)
theorem bst_t {p : Nat → Bool} {lt : Nat → Nat → Bool} {n : Nat} (h : p n = true) (e : bstB p lt n = none) : bstB p lt (n + 1) = some n := by
  simp only [bstB]; rw [if_pos h, e]
theorem bst_s {p : Nat → Bool} {lt : Nat → Nat → Bool} {n b : Nat} (h : p n = true) (e : bstB p lt n = some b) (g : lt n b = true) : bstB p lt (n + 1) = some n := by
  simp only [bstB]; rw [if_pos h, e]; exact if_pos g
theorem bst_k {p : Nat → Bool} {lt : Nat → Nat → Bool} {n b : Nat} (h : p n = true) (e : bstB p lt n = some b) (g : lt n b = false) : bstB p lt (n + 1) = some b := by
  simp only [bstB]; rw [if_pos h, e]; exact if_neg (by rw [g]; decide)
def neB (X Y : Nat → Nat) (p n : Nat) : Option Nat := bstB (fun q => decide (q ≠ p)) (fun a b => decide (ap X Y p a < ap X Y p b)) n
theorem near4 {F N p : Nat} {X Y : Nat → Nat} {xs ys : Nat → Int32} (hF : 1000 ≤ F) (hN : N ≤ 24) (hP : PT N X Y xs ys) (hI : IN N X Y) (hp : p < N) : mX4_nearestTo F (nI p) (nI N) xs ys = some (oI (neB X Y p N)) := by
  unfold mX4_nearestTo
  refine lp (fun k => (oI (neB X Y p k), (match neB X Y p k with | none => (0 : Int32) | some b => nI (ap X Y p b)), nI k)) 0 N _ (by omega) rfl (fun k _ hk => ?_) ?_ (by omega)
  · have a := apart4 (F := F) hN hP hI hp hk
    by_cases e : k = p
    · simp (disch := omega) [mX4_nearestTo_b7, Option.bind_some, nI_leE, nI_ltE, nI_eqE, nI_1, nI_add, rdI_n, rdL_n, wrI_n, wrL_n, has6b, has9b, bI_0, bI_1, nI_m1, nI_lt0, nI_le0, nI_0le, nI_eq0, leF, leT, ltF, ltT, eqF, e, neB, bstB]
    · have e2 : ¬ nI k = nI p := by rw [nI_eqE (by omega) (by omega)]; exact e
      cases h : neB X Y p k with
      | none =>
        have h2 : neB X Y p (k + 1) = some k := bst_t (decide_eq_true e) h
        simp (disch := omega) [mX4_nearestTo_b7, nI_leE, leF, nI_1, oI, e2, a, h2]
      | some b =>
        have ⟨b1, b2, _, _⟩ := bstB_some h
        have l1 := ap_lt (hI p hp).1 (hI b (by omega)).1 (hI p hp).2 (hI b (by omega)).2
        have l2 := ap_lt (hI p hp).1 (hI k hk).1 (hI p hp).2 (hI k hk).2
        have m := nI_m1 (a := b) (by omega)
        by_cases g : ap X Y p k < ap X Y p b
        · have h2 : neB X Y p (k + 1) = some k := bst_s (decide_eq_true e) h (decide_eq_true g)
          have g2 : ¬ ap X Y p b ≤ ap X Y p k := by omega
          simp (disch := omega) [mX4_nearestTo_b7, nI_leE, leF, nI_1, oI, e2, a, h2, m, g2]
        · have h2 : neB X Y p (k + 1) = some b := bst_k (decide_eq_true e) h (decide_eq_false g)
          have g2 : ap X Y p b ≤ ap X Y p k := by omega
          simp (disch := omega) [mX4_nearestTo_b7, nI_leE, leF, nI_1, oI, e2, a, h2, m, g2]
  · simp (disch := omega) [mX4_nearestTo_b7, Option.bind_some, nI_leE, nI_ltE, nI_eqE, nI_1, nI_add, rdI_n, rdL_n, wrI_n, wrL_n, has6b, has9b, bI_0, bI_1, nI_m1, nI_lt0, nI_le0, nI_0le, nI_eq0, leF, leT, ltF, ltT, eqF]
theorem ne_kf {X Y : Nat → Nat} {p : Nat} (hp : p < 24) {n : Nat} (hn : n ≤ 24) : bstB (fun q => decide (q ≠ p)) (fun a b => decide (kf X Y p a < kf X Y p b)) n = neB X Y p n := by
  unfold neB
  refine bstB_congr (fun k hk => rfl) (fun a b hba ha pa pb => ?_)
  simp at pa pb
  apply decide_eq_decide.mpr
  unfold kf
  omega
theorem near9 {F N p : Nat} {X Y : Nat → Nat} {xs ys : Nat → Int32} (hF : 1000 ≤ F) (hN : N ≤ 24) (hP : PT N X Y xs ys) (hI : IN N X Y) (hp : p < N) : mX9_nearestOf F (nI p) (nI N) xs ys = some (oI (neB X Y p N)) := by
  unfold mX9_nearestOf
  refine lp (fun k => (oI (neB X Y p k), nI k)) 0 N _ (by omega) rfl (fun k _ hk => ?_) ?_ (by omega)
  · by_cases e : k = p
    · simp (disch := omega) [mX9_nearestOf_b4, Option.bind_some, nI_leE, nI_ltE, nI_eqE, nI_1, nI_add, rdI_n, rdL_n, wrI_n, wrL_n, has6b, has9b, bI_0, bI_1, nI_m1, nI_lt0, nI_le0, nI_0le, nI_eq0, leF, leT, ltF, ltT, eqF, e, neB, bstB]
    · have e2 : ¬ nI k = nI p := by rw [nI_eqE (by omega) (by omega)]; exact e
      rw [← ne_kf (by omega) (show k ≤ 24 by omega), ← ne_kf (by omega) (show k + 1 ≤ 24 by omega)]
      cases h : bstB (fun q => decide (q ≠ p)) (fun a b => decide (kf X Y p a < kf X Y p b)) k with
      | none =>
        rw [bst_t (decide_eq_true e) h]
        simp (disch := omega) [mX9_nearestOf_b4, nI_leE, leF, nI_1, oI, e2]
      | some b =>
        have ⟨b1, b2, _, _⟩ := bstB_some h
        have m := nI_m1 (a := b) (by omega)
        have so := sooner9 (F := F) hN hP hI hp hk hp (show b < N by omega)
        by_cases g : kf X Y p k < kf X Y p b
        · rw [bst_s (decide_eq_true e) h (decide_eq_true g)]
          simp (disch := omega) [mX9_nearestOf_b4, nI_leE, leF, nI_1, oI, e2, m, so, g, bI_0]
        · rw [bst_k (decide_eq_true e) h (decide_eq_false g)]
          simp (disch := omega) [mX9_nearestOf_b4, nI_leE, leF, nI_1, oI, e2, m, so, g, bI_0]
  · simp (disch := omega) [mX9_nearestOf_b4, Option.bind_some, nI_leE, nI_ltE, nI_eqE, nI_1, nI_add, rdI_n, rdL_n, wrI_n, wrL_n, has6b, has9b, bI_0, bI_1, nI_m1, nI_lt0, nI_le0, nI_0le, nI_eq0, leF, leT, ltF, ltT, eqF]
/-- the square of how far a point is from a place -/
def sqE (xs ys : Nat → Int32) (x y : Int32) (i : Nat) : Int32 := (xs i - x) * (xs i - x) + (ys i - y) * (ys i - y)
def rkB (E : Nat → Int32) (i n : Nat) : Nat := cntB (fun j => decide (E j < E i) || (decide (E j = E i) && decide (j < i))) n
theorem rank8 {F N i : Nat} {E row : Nat → Int32} (hF : 1000 ≤ F) (hN : N ≤ 24) (hi : i < N) (h : ∀ j, j < N → row j = E j) : mX8_rankInRow F (nI i) (nI N) row = some (nI (rkB E i N)) := by
  unfold mX8_rankInRow
  refine lp (fun k => (nI (rkB E i k), nI k)) 0 N _ (by omega) rfl (fun k _ hk => ?_) ?_ (by omega)
  · have a := h k hk
    have b := h i hi
    by_cases h1 : E k < E i
    · simp (disch := omega) [mX8_rankInRow_b5, Option.bind_some, nI_leE, nI_ltE, nI_eqE, nI_1, nI_add, rdI_n, rdL_n, wrI_n, wrL_n, has6b, has9b, bI_0, bI_1, nI_m1, nI_lt0, nI_le0, nI_0le, nI_eq0, leF, leT, ltF, ltT, eqF, a, b, h1, rkB, cntB]
    · by_cases h2 : E k = E i
      · by_cases h3 : k < i
        · have h4 : ¬ i ≤ k := by omega
          simp (disch := omega) [mX8_rankInRow_b5, Option.bind_some, nI_leE, nI_ltE, nI_eqE, nI_1, nI_add, rdI_n, rdL_n, wrI_n, wrL_n, has6b, has9b, bI_0, bI_1, nI_m1, nI_lt0, nI_le0, nI_0le, nI_eq0, leF, leT, ltF, ltT, eqF, a, b, h1, h2, h3, h4, rkB, cntB]
        · have h4 : i ≤ k := by omega
          simp (disch := omega) [mX8_rankInRow_b5, Option.bind_some, nI_leE, nI_ltE, nI_eqE, nI_1, nI_add, rdI_n, rdL_n, wrI_n, wrL_n, has6b, has9b, bI_0, bI_1, nI_m1, nI_lt0, nI_le0, nI_0le, nI_eq0, leF, leT, ltF, ltT, eqF, a, b, h1, h2, h3, h4, rkB, cntB]
      · simp (disch := omega) [mX8_rankInRow_b5, Option.bind_some, nI_leE, nI_ltE, nI_eqE, nI_1, nI_add, rdI_n, rdL_n, wrI_n, wrL_n, has6b, has9b, bI_0, bI_1, nI_m1, nI_lt0, nI_le0, nI_0le, nI_eq0, leF, leT, ltF, ltT, eqF, a, b, h1, h2, rkB, cntB]
  · simp (disch := omega) [mX8_rankInRow_b5, Option.bind_some, nI_leE, nI_ltE, nI_eqE, nI_1, nI_add, rdI_n, rdL_n, wrI_n, wrL_n, has6b, has9b, bI_0, bI_1, nI_m1, nI_lt0, nI_le0, nI_0le, nI_eq0, leF, leT, ltF, ltT, eqF]
theorem squares4 {F N i : Nat} {xs ys : Nat → Int32} (hN : N ≤ 24) (hi : i < N) (x y : Int32) : mX4_squares F (nI i) x y xs ys = some (sqE xs ys x y i) := by
  unfold mX4_squares sqE
  simp (disch := omega) only [rdI_n, Option.bind_some]
theorem far9 {F N i : Nat} {xs ys : Nat → Int32} (hN : N ≤ 24) (hi : i < N) (x y : Int32) : mX9_farFrom F (nI i) x y xs ys = some (sqE xs ys x y i) := by
  unfold mX9_farFrom sqE
  simp (disch := omega) only [rdI_n, Option.bind_some]
theorem rank9 {F N i : Nat} {xs ys : Nat → Int32} (hF : 1000 ≤ F) (hN : N ≤ 24) (hi : i < N) (x y : Int32) :
    loop (fun s55 : Int32 × Int32 => mX9_near_b55 F x y (nI N) xs ys (nI i) s55.1 s55.2) F ((0 : Int32), (0 : Int32)) = some (nI (rkB (sqE xs ys x y) i N)) := by
  refine lp (fun k => (nI (rkB (sqE xs ys x y) i k), nI k)) 0 N _ (by omega) rfl (fun k _ hk => ?_) ?_ (by omega)
  · have a := far9 (F := F) (xs := xs) (ys := ys) hN hk x y
    have b := far9 (F := F) (xs := xs) (ys := ys) hN hi x y
    generalize sqE xs ys x y = E at a b ⊢
    by_cases h1 : E k < E i
    · simp (disch := omega) [mX9_near_b55, Option.bind_some, nI_leE, nI_ltE, nI_eqE, nI_1, nI_add, rdI_n, rdL_n, wrI_n, wrL_n, has6b, has9b, bI_0, bI_1, nI_m1, nI_lt0, nI_le0, nI_0le, nI_eq0, leF, leT, ltF, ltT, eqF, a, b, h1, rkB, cntB]
    · by_cases h2 : E k = E i
      · by_cases h3 : k < i
        · have h4 : ¬ i ≤ k := by omega
          simp (disch := omega) [mX9_near_b55, Option.bind_some, nI_leE, nI_ltE, nI_eqE, nI_1, nI_add, rdI_n, rdL_n, wrI_n, wrL_n, has6b, has9b, bI_0, bI_1, nI_m1, nI_lt0, nI_le0, nI_0le, nI_eq0, leF, leT, ltF, ltT, eqF, a, b, h1, h2, h3, h4, rkB, cntB]
        · have h4 : i ≤ k := by omega
          simp (disch := omega) [mX9_near_b55, Option.bind_some, nI_leE, nI_ltE, nI_eqE, nI_1, nI_add, rdI_n, rdL_n, wrI_n, wrL_n, has6b, has9b, bI_0, bI_1, nI_m1, nI_lt0, nI_le0, nI_0le, nI_eq0, leF, leT, ltF, ltT, eqF, a, b, h1, h2, h3, h4, rkB, cntB]
      · simp (disch := omega) [mX9_near_b55, Option.bind_some, nI_leE, nI_ltE, nI_eqE, nI_1, nI_add, rdI_n, rdL_n, wrI_n, wrL_n, has6b, has9b, bI_0, bI_1, nI_m1, nI_lt0, nI_le0, nI_0le, nI_eq0, leF, leT, ltF, ltT, eqF, a, b, h1, h2, rkB, cntB]
  · simp (disch := omega) [mX9_near_b55, Option.bind_some, nI_leE, nI_ltE, nI_eqE, nI_1, nI_add, rdI_n, rdL_n, wrI_n, wrL_n, has6b, has9b, bI_0, bI_1, nI_m1, nI_lt0, nI_le0, nI_0le, nI_eq0, leF, leT, ltF, ltT, eqF]
theorem sqE_congr {N : Nat} {xs ys xs' ys' : Nat → Int32} (h : ∀ i, i < N → xs i = xs' i ∧ ys i = ys' i) (x y : Int32) {i : Nat} (hi : i < N) : sqE xs ys x y i = sqE xs' ys' x y i := by
  unfold sqE
  rw [(h i hi).1, (h i hi).2]
theorem rkB_congr {E E' : Nat → Int32} {N i : Nat} (h : ∀ j, j < N → E j = E' j) (hi : i < N) : rkB E i N = rkB E' i N := cntB_congr (fun k hk => by rw [h k hk, h i hi])
/-- the heaviest of a set: of like ones the first -/
def hvB (W : Nat → Nat) (m n : Nat) : Option Nat := bstB m.testBit (fun a b => decide (W b < W a)) n
theorem heavy4 {F N m : Nat} {W : Nat → Nat} {ws : Nat → Int32} (hF : 1000 ≤ F) (hN : N ≤ 24) (hm : m < 2 ^ 31) (hw : ∀ i, i < N → ws i = nI (W i) ∧ 1 ≤ W i ∧ W i ≤ 99) : mX4_heaviestOf F (nI m) (nI N) ws = some (oI (hvB W m N)) := by
  unfold mX4_heaviestOf
  refine lp (fun k => (oI (hvB W m k), (match hvB W m k with | none => (0 : Int32) | some b => nI (W b)), nI k)) 0 N _ (by omega) rfl (fun k _ hk => ?_) ?_ (by omega)
  · have ⟨a1, a2, a3⟩ := hw k hk
    cases hb : m.testBit k with
    | false =>
      have h2 : hvB W m (k + 1) = hvB W m k := by unfold hvB; simp [bstB, hb]
      simp (disch := omega) [mX4_heaviestOf_b7, Option.bind_some, nI_leE, nI_ltE, nI_eqE, nI_1, nI_add, rdI_n, rdL_n, wrI_n, wrL_n, has6b, has9b, bI_0, bI_1, nI_m1, nI_lt0, nI_le0, nI_0le, nI_eq0, leF, leT, ltF, ltT, eqF, hb, h2]
    | true =>
      cases h : hvB W m k with
      | none =>
        have h2 : hvB W m (k + 1) = some k := by unfold hvB at h ⊢; simp [bstB, hb, h]
        have g : ¬ W k = 0 := by omega
        simp (disch := omega) [mX4_heaviestOf_b7, nI_leE, leF, has6b, bI_0, rdI_n, nI_1, oI, hb, a1, h2, nI_le0, g]
      | some b =>
        have ⟨b1, b2⟩ := bstB_lt h
        have ⟨c1, c2, c3⟩ := hw b (by omega)
        by_cases g : W b < W k
        · have h2 : hvB W m (k + 1) = some k := by unfold hvB at h ⊢; simp [bstB, hb, h, g]
          have g2 : ¬ W k ≤ W b := by omega
          simp (disch := omega) [mX4_heaviestOf_b7, nI_leE, leF, has6b, bI_0, rdI_n, nI_1, oI, hb, a1, h2, g2]
        · have h2 : hvB W m (k + 1) = some b := by unfold hvB at h ⊢; simp [bstB, hb, h, g]
          have g2 : W k ≤ W b := by omega
          simp (disch := omega) [mX4_heaviestOf_b7, nI_leE, leF, has6b, bI_0, rdI_n, nI_1, oI, hb, a1, h2, g2]
  · simp (disch := omega) [mX4_heaviestOf_b7, Option.bind_some, nI_leE, nI_ltE, nI_eqE, nI_1, nI_add, rdI_n, rdL_n, wrI_n, wrL_n, has6b, has9b, bI_0, bI_1, nI_m1, nI_lt0, nI_le0, nI_0le, nI_eq0, leF, leT, ltF, ltT, eqF]
theorem heavy9 {F N m : Nat} {W : Nat → Nat} {ws : Nat → Int32} (hF : 1000 ≤ F) (hN : N ≤ 24) (hm : m < 2 ^ 31) (hw : ∀ i, i < N → ws i = nI (W i) ∧ 1 ≤ W i ∧ W i ≤ 99) : mX9_topOf F (nI m) (nI N) ws = some (oI (hvB W m N)) := by
  unfold mX9_topOf
  refine lp (fun k => (oI (hvB W m k), nI k)) 0 N _ (by omega) rfl (fun k _ hk => ?_) ?_ (by omega)
  · have ⟨a1, a2, a3⟩ := hw k hk
    cases hb : m.testBit k with
    | false =>
      have h2 : hvB W m (k + 1) = hvB W m k := by unfold hvB; simp [bstB, hb]
      simp (disch := omega) [mX9_topOf_b4, Option.bind_some, nI_leE, nI_ltE, nI_eqE, nI_1, nI_add, rdI_n, rdL_n, wrI_n, wrL_n, has6b, has9b, bI_0, bI_1, nI_m1, nI_lt0, nI_le0, nI_0le, nI_eq0, leF, leT, ltF, ltT, eqF, hb, h2]
    | true =>
      cases h : hvB W m k with
      | none =>
        have h2 : hvB W m (k + 1) = some k := by unfold hvB at h ⊢; simp [bstB, hb, h]
        simp (disch := omega) [mX9_topOf_b4, nI_leE, leF, has9b, bI_0, rdI_n, nI_1, oI, hb, h2]
      | some b =>
        have ⟨b1, b2⟩ := bstB_lt h
        have ⟨c1, c2, c3⟩ := hw b (by omega)
        have m1 := nI_m1 (a := b) (by omega)
        by_cases g : W b < W k
        · have h2 : hvB W m (k + 1) = some k := by unfold hvB at h ⊢; simp [bstB, hb, h, g]
          have g2 : ¬ W k ≤ W b := by omega
          simp (disch := omega) [mX9_topOf_b4, nI_leE, leF, has9b, bI_0, rdI_n, nI_1, oI, hb, a1, c1, h2, g2, m1]
        · have h2 : hvB W m (k + 1) = some b := by unfold hvB at h ⊢; simp [bstB, hb, h, g]
          have g2 : W k ≤ W b := by omega
          simp (disch := omega) [mX9_topOf_b4, nI_leE, leF, has9b, bI_0, rdI_n, nI_1, oI, hb, a1, c1, h2, g2, m1]
  · simp (disch := omega) [mX9_topOf_b4, Option.bind_some, nI_leE, nI_ltE, nI_eqE, nI_1, nI_add, rdI_n, rdL_n, wrI_n, wrL_n, has6b, has9b, bI_0, bI_1, nI_m1, nI_lt0, nI_le0, nI_0le, nI_eq0, leF, leT, ltF, ltT, eqF]
/-- the greatest of f where p holds, and 0 -/
def maxB (p : Nat → Bool) (f : Nat → Nat) : Nat → Nat
  | 0 => 0
  | n + 1 => if p n = true then max (maxB p f n) (f n) else maxB p f n
theorem maxB_le {p : Nat → Bool} {f : Nat → Nat} {c : Nat} : ∀ {n}, maxB p f n ≤ c ↔ ∀ k, k < n → p k = true → f k ≤ c
  | 0 => ⟨fun _ k h => by omega, fun _ => Nat.zero_le _⟩
  | n + 1 => by
    simp only [maxB]
    cases hp : p n with
    | true =>
      rw [if_pos rfl]
      refine ⟨fun h k hk pk => ?_, fun h => ?_⟩
      · rcases Nat.lt_succ_iff_lt_or_eq.mp hk with g | g
        · exact maxB_le.mp (by omega : maxB p f n ≤ c) k g pk
        · subst g; omega
      · have a : maxB p f n ≤ c := maxB_le.mpr (fun k hk pk => h k (by omega) pk)
        have b := h n (by omega) hp
        omega
    | false =>
      rw [if_neg (by decide)]
      refine maxB_le.trans ⟨fun h k hk pk => ?_, fun h k hk pk => h k (by omega) pk⟩
      rcases Nat.lt_succ_iff_lt_or_eq.mp hk with g | g
      · exact h k g pk
      · subst g; rw [hp] at pk; cases pk
/-- the widest of a set -/
def wdB (X Y : Nat → Nat) (m : Nat) : Nat → Nat
  | 0 => 0
  | n + 1 => max (wdB X Y m n) (maxB (fun q => m.testBit n && m.testBit q) (fun q => ap X Y n q) n)
theorem wdB_le {X Y : Nat → Nat} {m c : Nat} : ∀ {n}, wdB X Y m n ≤ c ↔ ∀ p q, q < p → p < n → m.testBit p = true → m.testBit q = true → ap X Y p q ≤ c
  | 0 => ⟨fun _ p q _ h => by omega, fun _ => Nat.zero_le _⟩
  | n + 1 => by
    simp only [wdB]
    refine ⟨fun h p q hq hp mp mq => ?_, fun h => ?_⟩
    · rcases Nat.lt_succ_iff_lt_or_eq.mp hp with g | g
      · exact wdB_le.mp (by omega : wdB X Y m n ≤ c) p q hq g mp mq
      · subst g
        exact maxB_le.mp (by omega : maxB (fun q => m.testBit p && m.testBit q) (fun q => ap X Y p q) p ≤ c) q hq (by simp [mp, mq])
    · have a : wdB X Y m n ≤ c := wdB_le.mpr (fun p q hq hp mp mq => h p q hq (by omega) mp mq)
      have b : maxB (fun q => m.testBit n && m.testBit q) (fun q => ap X Y n q) n ≤ c := maxB_le.mpr (fun k hk pk => by simp at pk; exact h n k hk (by omega) pk.1 pk.2)
      omega
theorem wdB_bd {N m n : Nat} {X Y : Nat → Nat} (hI : IN N X Y) (hn : n ≤ N) : wdB X Y m n ≤ 2093058 := wdB_le.mpr (fun p q hq hp _ _ => ap_lt (hI p (by omega)).1 (hI q (by omega)).1 (hI p (by omega)).2 (hI q (by omega)).2)
theorem wide9_in {F N p : Nat} {X Y : Nat → Nat} {xs ys : Nat → Int32} {m : Nat} (hF : 1000 ≤ F) (hN : N ≤ 24) (hP : PT N X Y xs ys) (hI : IN N X Y) (hm : m < 2 ^ 31) (hp : p < N) (c : Nat) (hc : c ≤ 2093058) :
    loop (fun s15 : Int32 × Int32 => mX9_widest_b15 F (nI m) xs ys (nI p) s15.1 s15.2) F (nI c, (0 : Int32)) = some (nI (max c (maxB (fun q => m.testBit p && m.testBit q) (fun q => ap X Y p q) p))) := by
  refine lp (fun k => (nI (max c (maxB (fun q => m.testBit p && m.testBit q) (fun q => ap X Y p q) k)), nI k)) 0 p _ (by omega) (by simp [maxB]; rfl) (fun k _ hk => ?_) ?_ (by omega)
  · have a := apart9 (F := F) hN hP hI hp (show k < N by omega)
    have l2 := ap_lt (hI p hp).1 (hI k (by omega)).1 (hI p hp).2 (hI k (by omega)).2
    cases h1 : m.testBit p with
    | false => simp (disch := omega) [mX9_widest_b15, Option.bind_some, nI_leE, nI_ltE, nI_eqE, nI_1, nI_add, rdI_n, rdL_n, wrI_n, wrL_n, has6b, has9b, bI_0, bI_1, nI_m1, nI_lt0, nI_le0, nI_0le, nI_eq0, leF, leT, ltF, ltT, eqF, h1, maxB]
    | true =>
      cases h2 : m.testBit k with
      | false => simp (disch := omega) [mX9_widest_b15, Option.bind_some, nI_leE, nI_ltE, nI_eqE, nI_1, nI_add, rdI_n, rdL_n, wrI_n, wrL_n, has6b, has9b, bI_0, bI_1, nI_m1, nI_lt0, nI_le0, nI_0le, nI_eq0, leF, leT, ltF, ltT, eqF, h1, h2, maxB]
      | true =>
        have b : maxB (fun q => true && m.testBit q) (fun q => ap X Y p q) k ≤ 2093058 := maxB_le.mpr (fun q hq _ => ap_lt (hI p hp).1 (hI q (by omega)).1 (hI p hp).2 (hI q (by omega)).2)
        have e : (if nI (max c (maxB (fun q => true && m.testBit q) (fun q => ap X Y p q) k)) < nI (ap X Y p k) then nI (ap X Y p k) else nI (max c (maxB (fun q => true && m.testBit q) (fun q => ap X Y p q) k))) = nI (max c (maxB (fun q => true && m.testBit q) (fun q => ap X Y p q) (k + 1))) := by
          rw [maxI (by omega) (by omega), Nat.max_assoc]
          simp only [maxB]
          rw [if_pos (by simp [h2])]
        simp only [mX9_widest_b15]
        rw [if_neg (by rw [nI_leE (by omega) (by omega)]; omega), has9b F hm (by omega), has9b F hm (by omega), h1, h2, a]
        simp only [Option.bind_some, bI_0, nI_1, e]
        rfl
  · simp (disch := omega) [mX9_widest_b15, Option.bind_some, nI_leE, nI_ltE, nI_eqE, nI_1, nI_add, rdI_n, rdL_n, wrI_n, wrL_n, has6b, has9b, bI_0, bI_1, nI_m1, nI_lt0, nI_le0, nI_0le, nI_eq0, leF, leT, ltF, ltT, eqF]
theorem wide9 {F N m : Nat} {X Y : Nat → Nat} {xs ys : Nat → Int32} (hF : 1000 ≤ F) (hN : N ≤ 24) (hP : PT N X Y xs ys) (hI : IN N X Y) (hm : m < 2 ^ 31) : mX9_widest F (nI m) (nI N) xs ys = some (nI (wdB X Y m N)) := by
  unfold mX9_widest
  refine lp (fun k => (nI (wdB X Y m k), nI k)) 0 N _ (by omega) rfl (fun k _ hk => ?_) ?_ (by omega)
  · have w := wide9_in (F := F) hF hN hP hI hm hk (wdB X Y m k) (wdB_bd hI (by omega))
    simp only [mX9_widest_b4]
    rw [if_neg (by rw [nI_leE (by omega) (by omega)]; omega), w]
    simp only [Option.bind_some, nI_1, wdB]
  · simp (disch := omega) [mX9_widest_b4, Option.bind_some, nI_leE, nI_ltE, nI_eqE, nI_1, nI_add, rdI_n, rdL_n, wrI_n, wrL_n, has6b, has9b, bI_0, bI_1, nI_m1, nI_lt0, nI_le0, nI_0le, nI_eq0, leF, leT, ltF, ltT, eqF]
/-- the class's way: the second one from behind the first -/
def wcB (X Y : Nat → Nat) (m p n : Nat) : Nat := maxB (fun q => decide (p < q) && m.testBit p && m.testBit q) (fun q => ap X Y p q) n
def wfB (X Y : Nat → Nat) (m N : Nat) : Nat → Nat
  | 0 => 0
  | n + 1 => max (wfB X Y m N n) (wcB X Y m n N)
theorem wfB_le {X Y : Nat → Nat} {m N c : Nat} : ∀ {n}, wfB X Y m N n ≤ c ↔ ∀ p q, p < n → p < q → q < N → m.testBit p = true → m.testBit q = true → ap X Y p q ≤ c
  | 0 => ⟨fun _ p q h => by omega, fun _ => Nat.zero_le _⟩
  | n + 1 => by
    simp only [wfB]
    refine ⟨fun h p q hp hpq hq mp mq => ?_, fun h => ?_⟩
    · rcases Nat.lt_succ_iff_lt_or_eq.mp hp with g | g
      · exact wfB_le.mp (by omega : wfB X Y m N n ≤ c) p q g hpq hq mp mq
      · subst g
        exact maxB_le.mp (by unfold wcB at h; omega : maxB (fun q => decide (p < q) && m.testBit p && m.testBit q) (fun q => ap X Y p q) N ≤ c) q hq (by simp [hpq, mp, mq])
    · have a : wfB X Y m N n ≤ c := wfB_le.mpr (fun p q hp hpq hq mp mq => h p q (by omega) hpq hq mp mq)
      have b : wcB X Y m n N ≤ c := maxB_le.mpr (fun k hk pk => by simp at pk; exact h n k (by omega) pk.1.1 hk pk.1.2 pk.2)
      omega
theorem wf_wd {X Y : Nat → Nat} {m N : Nat} : wfB X Y m N N = wdB X Y m N := by
  refine Nat.le_antisymm (wfB_le.mpr (fun p q hp hpq hq mp mq => ?_)) (wdB_le.mpr (fun p q hq hp mp mq => ?_))
  · rw [ap_comm]
    exact wdB_le.mp (Nat.le_refl _) q p hpq hq mq mp
  · rw [ap_comm]
    exact wfB_le.mp (Nat.le_refl _) q p (by omega) hq hp mq mp
theorem wc_0 {X Y : Nat → Nat} {m p : Nat} : wcB X Y m p (p + 1) = 0 := Nat.le_zero.mp (maxB_le.mpr (fun k hk pk => by simp at pk; omega))
theorem wide4 {F N m : Nat} {X Y : Nat → Nat} {xs ys : Nat → Int32} (hF : 1000 ≤ F) (hN : N ≤ 24) (hP : PT N X Y xs ys) (hI : IN N X Y) (hm : m < 2 ^ 31) : mX4_wide F (nI m) (nI N) xs ys = some (nI (wdB X Y m N)) := by
  rw [← wf_wd]
  unfold mX4_wide
  refine lp (fun k => (nI (wfB X Y m N k), nI k)) 0 N _ (by omega) rfl (fun k _ hk => ?_) ?_ (by omega)
  · have bw : wfB X Y m N k ≤ 2093058 := wfB_le.mpr (fun p q hp hpq hq _ _ => ap_lt (hI p (by omega)).1 (hI q (by omega)).1 (hI p (by omega)).2 (hI q (by omega)).2)
    have w : loop (fun s17 : Int32 × Int32 => mX4_wide_b17 F (nI m) (nI N) xs ys (nI k) s17.1 s17.2) F (nI (wfB X Y m N k), nI (k + 1)) = some (nI (max (wfB X Y m N k) (wcB X Y m k N))) := by
      cases h1 : m.testBit k with
      | false =>
        have e : wcB X Y m k N = 0 := Nat.le_zero.mp (maxB_le.mpr (fun q hq pq => by simp [h1] at pq))
        rw [e, Nat.max_zero]
        refine lp (fun _ => (nI (wfB X Y m N k), nI (k + 1))) 0 0 _ (by omega) rfl (fun k _ hk => by omega) ?_ (by omega)
        by_cases g : N ≤ k + 1
        · simp (disch := omega) [mX4_wide_b17, Option.bind_some, nI_leE, nI_ltE, nI_eqE, nI_1, nI_add, rdI_n, rdL_n, wrI_n, wrL_n, has6b, has9b, bI_0, bI_1, nI_m1, nI_lt0, nI_le0, nI_0le, nI_eq0, leF, leT, ltF, ltT, eqF]
        · simp (disch := omega) [mX4_wide_b17, Option.bind_some, nI_leE, nI_ltE, nI_eqE, nI_1, nI_add, rdI_n, rdL_n, wrI_n, wrL_n, has6b, has9b, bI_0, bI_1, nI_m1, nI_lt0, nI_le0, nI_0le, nI_eq0, leF, leT, ltF, ltT, eqF, h1]
      | true =>
        refine lp (fun q => (nI (max (wfB X Y m N k) (wcB X Y m k q)), nI q)) (k + 1) N _ (by omega) (by rw [wc_0, Nat.max_zero]) (fun q hq1 hq => ?_) ?_ (by omega)
        · have a := apart4 (F := F) hN hP hI hk hq
          have l2 := ap_lt (hI k hk).1 (hI q hq).1 (hI k hk).2 (hI q hq).2
          have b : wcB X Y m k q ≤ 2093058 := maxB_le.mpr (fun r hr _ => ap_lt (hI k hk).1 (hI r (by omega)).1 (hI k hk).2 (hI r (by omega)).2)
          cases h2 : m.testBit q with
          | false =>
            have e : wcB X Y m k (q + 1) = wcB X Y m k q := by unfold wcB; simp [maxB, h2]
            simp (disch := omega) [mX4_wide_b17, Option.bind_some, nI_leE, nI_ltE, nI_eqE, nI_1, nI_add, rdI_n, rdL_n, wrI_n, wrL_n, has6b, has9b, bI_0, bI_1, nI_m1, nI_lt0, nI_le0, nI_0le, nI_eq0, leF, leT, ltF, ltT, eqF, h1, h2, e]
          | true =>
            have e : wcB X Y m k (q + 1) = max (wcB X Y m k q) (ap X Y k q) := by unfold wcB; simp [maxB, h1, h2]; intro h; omega
            have e2 : (if nI (max (wfB X Y m N k) (wcB X Y m k q)) < nI (ap X Y k q) then nI (ap X Y k q) else nI (max (wfB X Y m N k) (wcB X Y m k q))) = nI (max (wfB X Y m N k) (wcB X Y m k (q + 1))) := by
              rw [maxI (by omega) (by omega), Nat.max_assoc, e]
            simp only [mX4_wide_b17]
            rw [if_neg (by rw [nI_leE (by omega) (by omega)]; omega), has6b F hm (by omega), has6b F hm (by omega), h1, h2, a]
            simp only [Option.bind_some, bI_0, nI_1, e2]
            rfl
        · simp (disch := omega) [mX4_wide_b17, Option.bind_some, nI_leE, nI_ltE, nI_eqE, nI_1, nI_add, rdI_n, rdL_n, wrI_n, wrL_n, has6b, has9b, bI_0, bI_1, nI_m1, nI_lt0, nI_le0, nI_0le, nI_eq0, leF, leT, ltF, ltT, eqF]
    simp only [mX4_wide_b4]
    rw [if_neg (by rw [nI_leE (by omega) (by omega)]; omega)]
    simp only [Option.bind_some, nI_1]
    rw [w]
    simp only [Option.bind_some, wfB]
  · simp (disch := omega) [mX4_wide_b4, Option.bind_some, nI_leE, nI_ltE, nI_eqE, nI_1, nI_add, rdI_n, rdL_n, wrI_n, wrL_n, has6b, has9b, bI_0, bI_1, nI_m1, nI_lt0, nI_le0, nI_0le, nI_eq0, leF, leT, ltF, ltT, eqF]
