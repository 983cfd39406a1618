/-! ===== PURE 13: leaves: joins ===== -/
theorem nI_eqS {p : Nat → Nat} {a b : Nat} (ha : a < 2 ^ 31) (hb : b < 2 ^ 31) : decide (nI a = nI b) = decide (a = b) := decide_eq_decide.mpr (by rw [nI_eqE ha hb])
def lkB (P Q : Nat → Nat) (p n : Nat) : Nat := cntB (fun j => decide (P j = p) || decide (Q j = p)) n
theorem links2 {F n p : Nat} {P Q : Nat → Nat} {firsts seconds : Nat → Int32} (hF : 1000 ≤ F) (hn : n ≤ 24) (hp : p < 100) (h : ∀ j, j < n → firsts j = nI (P j) ∧ seconds j = nI (Q j) ∧ P j < 100 ∧ Q j < 100) :
    mX2_linksOf F (nI p) (nI n) firsts seconds = some (nI (lkB P Q p n)) := by
  unfold mX2_linksOf
  refine lp (fun k => (nI (lkB P Q p k), nI k)) 0 n _ (by omega) rfl (fun k _ hk => ?_) ?_ (by omega)
  · have ⟨a, b, c, d⟩ := h k hk
    by_cases h1 : P k = p
    · simp (disch := omega) [mX2_linksOf_b4, Option.bind_some, nI_leE, nI_ltE, nI_eqE, nI_1, nI_add, rdI_n, rdL_n, wrI_n, wrL_n, has6b, has9b, bI_0, bI_1, nI_m1, nI_lt0, nI_le0, nI_0le, nI_eq0, leF, leT, ltF, ltT, eqF, a, b, h1, lkB, cntB]
    · by_cases h2 : Q k = p <;> simp (disch := omega) [mX2_linksOf_b4, Option.bind_some, nI_leE, nI_ltE, nI_eqE, nI_1, nI_add, rdI_n, rdL_n, wrI_n, wrL_n, has6b, has9b, bI_0, bI_1, nI_m1, nI_lt0, nI_le0, nI_0le, nI_eq0, leF, leT, ltF, ltT, eqF, a, b, h1, h2, lkB, cntB]
  · simp (disch := omega) [mX2_linksOf_b4, Option.bind_some, nI_leE, nI_ltE, nI_eqE, nI_1, nI_add, rdI_n, rdL_n, wrI_n, wrL_n, has6b, has9b, bI_0, bI_1, nI_m1, nI_lt0, nI_le0, nI_0le, nI_eq0, leF, leT, ltF, ltT, eqF]
theorem links9 {F N p : Nat} {P Q : Nat → Nat} {firsts seconds : Nat → Int32} (hF : 1000 ≤ F) (hN : N ≤ 24) (hp : p < 100) (h : ∀ j, j < N - 1 → firsts j = nI (P j) ∧ seconds j = nI (Q j) ∧ P j < 100 ∧ Q j < 100) :
    mX9_linksOf F (nI p) (nI N) firsts seconds = some (nI (lkB P Q p (N - 1))) := by
  have j9 := joins9 (F := F) hN
  unfold mX9_linksOf
  refine lp (fun k => (nI (lkB P Q p k), nI k)) 0 (N - 1) _ (by omega) rfl (fun k _ hk => ?_) ?_ (by omega)
  · have ⟨a, b, c, d⟩ := h k hk
    by_cases h1 : P k = p
    · simp (disch := omega) [mX9_linksOf_b4, Option.bind_some, nI_leE, nI_ltE, nI_eqE, nI_1, nI_add, rdI_n, rdL_n, wrI_n, wrL_n, has6b, has9b, bI_0, bI_1, nI_m1, nI_lt0, nI_le0, nI_0le, nI_eq0, leF, leT, ltF, ltT, eqF, j9, a, b, h1, lkB, cntB]
    · by_cases h2 : Q k = p <;> simp (disch := omega) [mX9_linksOf_b4, Option.bind_some, nI_leE, nI_ltE, nI_eqE, nI_1, nI_add, rdI_n, rdL_n, wrI_n, wrL_n, has6b, has9b, bI_0, bI_1, nI_m1, nI_lt0, nI_le0, nI_0le, nI_eq0, leF, leT, ltF, ltT, eqF, j9, a, b, h1, h2, lkB, cntB]
  · simp (disch := omega) [mX9_linksOf_b4, Option.bind_some, nI_leE, nI_ltE, nI_eqE, nI_1, nI_add, rdI_n, rdL_n, wrI_n, wrL_n, has6b, has9b, bI_0, bI_1, nI_m1, nI_lt0, nI_le0, nI_0le, nI_eq0, leF, leT, ltF, ltT, eqF, j9]
theorem lkB_le (P Q : Nat → Nat) (p n : Nat) : lkB P Q p n ≤ n := cntB_le _ n
def mlB (P Q : Nat → Nat) (n : Nat) : Nat → Nat
  | 0 => 0
  | k + 1 => max (mlB P Q n k) (lkB P Q k n)
theorem mlB_le (P Q : Nat → Nat) (n : Nat) : ∀ k, mlB P Q n k ≤ n
  | 0 => Nat.zero_le _
  | k + 1 => by
    have a := mlB_le P Q n k
    have b := lkB_le P Q k n
    simp only [mlB]
    omega
theorem most2 {F N n : Nat} {P Q : Nat → Nat} {firsts seconds : Nat → Int32} (hF : 1000 ≤ F) (hN : N ≤ 24) (hn : n ≤ 24) (h : ∀ j, j < n → firsts j = nI (P j) ∧ seconds j = nI (Q j) ∧ P j < 100 ∧ Q j < 100) :
    mX2_mostLinks F (nI n) (nI N) firsts seconds = some (nI (mlB P Q n N)) := by
  unfold mX2_mostLinks
  refine lp (fun k => (nI (mlB P Q n k), nI k)) 0 N _ (by omega) rfl (fun k _ hk => ?_) ?_ (by omega)
  · have l := links2 (F := F) (p := k) hF hn (by omega) h
    have a := mlB_le P Q n k
    have b := lkB_le P Q k n
    simp (disch := omega) only [mX2_mostLinks_b4, nI_leE, leF, if_false, l, Option.bind_some, maxI, nI_1, mlB]
  · simp (disch := omega) [mX2_mostLinks_b4, Option.bind_some, nI_leE, nI_ltE, nI_eqE, nI_1, nI_add, rdI_n, rdL_n, wrI_n, wrL_n, has6b, has9b, bI_0, bI_1, nI_m1, nI_lt0, nI_le0, nI_0le, nI_eq0, leF, leT, ltF, ltT, eqF]
theorem most9 {F N : Nat} {P Q : Nat → Nat} {firsts seconds : Nat → Int32} (hF : 1000 ≤ F) (hN : N ≤ 24) (h : ∀ j, j < N - 1 → firsts j = nI (P j) ∧ seconds j = nI (Q j) ∧ P j < 100 ∧ Q j < 100) :
    mX9_mostLinks F (nI N) firsts seconds = some (nI (mlB P Q (N - 1) N)) := by
  unfold mX9_mostLinks
  refine lp (fun k => (nI (mlB P Q (N - 1) k), nI k)) 0 N _ (by omega) rfl (fun k _ hk => ?_) ?_ (by omega)
  · have l := links9 (F := F) (p := k) hF hN (by omega) h
    have a := mlB_le P Q (N - 1) k
    have b := lkB_le P Q k (N - 1)
    simp (disch := omega) only [mX9_mostLinks_b4, nI_leE, leF, if_false, l, Option.bind_some, maxI, nI_1, mlB]
  · simp (disch := omega) [mX9_mostLinks_b4, Option.bind_some, nI_leE, nI_ltE, nI_eqE, nI_1, nI_add, rdI_n, rdL_n, wrI_n, wrL_n, has6b, has9b, bI_0, bI_1, nI_m1, nI_lt0, nI_le0, nI_0le, nI_eq0, leF, leT, ltF, ltT, eqF]
theorem sumA2 {F n : Nat} {A : Nat → Nat} {aparts : Nat → Int32} (hF : 1000 ≤ F) (hn : n ≤ 24) (h : ∀ j, j < n → aparts j = nI (A j)) : mX2_sumAparts F (nI n) aparts = some (nI (sumB A n)) := by
  unfold mX2_sumAparts
  refine lp (fun k => (nI (sumB A k), nI k)) 0 n _ (by omega) rfl (fun k _ hk => ?_) ?_ (by omega)
  · simp (disch := omega) [mX2_sumAparts_b4, Option.bind_some, nI_leE, nI_ltE, nI_eqE, nI_1, nI_add, rdI_n, rdL_n, wrI_n, wrL_n, has6b, has9b, bI_0, bI_1, nI_m1, nI_lt0, nI_le0, nI_0le, nI_eq0, leF, leT, ltF, ltT, eqF, h, sumB]
  · simp (disch := omega) [mX2_sumAparts_b4, Option.bind_some, nI_leE, nI_ltE, nI_eqE, nI_1, nI_add, rdI_n, rdL_n, wrI_n, wrL_n, has6b, has9b, bI_0, bI_1, nI_m1, nI_lt0, nI_le0, nI_0le, nI_eq0, leF, leT, ltF, ltT, eqF]
theorem sumR2 {F n : Nat} {A : Nat → Nat} {aparts : Nat → Int32} (hF : 1000 ≤ F) (hn : n ≤ 24) (h : ∀ j, j < n → aparts j = nI (A j)) : mX2_sumRoots F (nI n) aparts = some (nI (sumB A n)) := by
  unfold mX2_sumRoots
  refine lp (fun k => (nI (sumB A k), nI k)) 0 n _ (by omega) rfl (fun k _ hk => ?_) ?_ (by omega)
  · simp (disch := omega) [mX2_sumRoots_b4, Option.bind_some, nI_leE, nI_ltE, nI_eqE, nI_1, nI_add, rdI_n, rdL_n, wrI_n, wrL_n, has6b, has9b, bI_0, bI_1, nI_m1, nI_lt0, nI_le0, nI_0le, nI_eq0, leF, leT, ltF, ltT, eqF, h, sumB]
  · simp (disch := omega) [mX2_sumRoots_b4, Option.bind_some, nI_leE, nI_ltE, nI_eqE, nI_1, nI_add, rdI_n, rdL_n, wrI_n, wrL_n, has6b, has9b, bI_0, bI_1, nI_m1, nI_lt0, nI_le0, nI_0le, nI_eq0, leF, leT, ltF, ltT, eqF]
theorem sumA9 {F N : Nat} {A : Nat → Nat} {aparts : Nat → Int32} (hF : 1000 ≤ F) (hN : N ≤ 24) (h : ∀ j, j < N - 1 → aparts j = nI (A j)) : mX9_allApart F (nI N) aparts = some (nI (sumB A (N - 1))) := by
  have j9 := joins9 (F := F) hN
  unfold mX9_allApart
  refine lp (fun k => (nI (sumB A k), nI k)) 0 (N - 1) _ (by omega) rfl (fun k _ hk => ?_) ?_ (by omega)
  · simp (disch := omega) [mX9_allApart_b4, Option.bind_some, nI_leE, nI_ltE, nI_eqE, nI_1, nI_add, rdI_n, rdL_n, wrI_n, wrL_n, has6b, has9b, bI_0, bI_1, nI_m1, nI_lt0, nI_le0, nI_0le, nI_eq0, leF, leT, ltF, ltT, eqF, j9, h, sumB]
  · simp (disch := omega) [mX9_allApart_b4, Option.bind_some, nI_leE, nI_ltE, nI_eqE, nI_1, nI_add, rdI_n, rdL_n, wrI_n, wrL_n, has6b, has9b, bI_0, bI_1, nI_m1, nI_lt0, nI_le0, nI_0le, nI_eq0, leF, leT, ltF, ltT, eqF, j9]
theorem sumR9 {F N : Nat} {A : Nat → Nat} {aparts : Nat → Int32} (hF : 5000 ≤ F) (hN : N ≤ 24) (h : ∀ j, j < N - 1 → aparts j = nI (A j) ∧ A j < 4194304) : mX9_rootsOfAll F (nI N) aparts = some (nI (sumB (fun j => rt (A j)) (N - 1))) := by
  have j9 := joins9 (F := F) hN
  unfold mX9_rootsOfAll
  refine lp (fun k => (nI (sumB (fun j => rt (A j)) k), nI k)) 0 (N - 1) _ (by omega) rfl (fun k _ hk => ?_) ?_ (by omega)
  · have ⟨a, b⟩ := h k hk
    have r := root9 (F := F) hF b
    simp (disch := omega) [mX9_rootsOfAll_b4, Option.bind_some, nI_leE, nI_ltE, nI_eqE, nI_1, nI_add, rdI_n, rdL_n, wrI_n, wrL_n, has6b, has9b, bI_0, bI_1, nI_m1, nI_lt0, nI_le0, nI_0le, nI_eq0, leF, leT, ltF, ltT, eqF, j9, a, r, sumB]
  · simp (disch := omega) [mX9_rootsOfAll_b4, Option.bind_some, nI_leE, nI_ltE, nI_eqE, nI_1, nI_add, rdI_n, rdL_n, wrI_n, wrL_n, has6b, has9b, bI_0, bI_1, nI_m1, nI_lt0, nI_le0, nI_0le, nI_eq0, leF, leT, ltF, ltT, eqF, j9]
/-- where two points come into one part -/
def meB (P Q : Nat → Nat) (p q n : Nat) : Option Nat := fstB (fun j => (pmB P Q j).testBit p && (pmB P Q j).testBit q) n
theorem meet2 {F n p q : Nat} {P Q : Nat → Nat} {parts : Nat → Int32} (hF : 1000 ≤ F) (hn : n ≤ 24) (hp : p < 31) (hq : q < 31) (h : ∀ j, j < n → parts j = nI (pmB P Q j) ∧ pmB P Q j < 2 ^ 31) :
    mX2_meeting F (nI p) (nI q) (nI n) parts = some (oI (if p = q then none else meB P Q p q n)) := by
  unfold mX2_meeting
  by_cases e : p = q
  · subst e
    rw [if_pos rfl]
    refine lp (fun _ => (0 : Int32)) 0 0 _ (by omega) rfl (fun k _ hk => by omega) ?_ (by omega)
    by_cases g : n = 0
    · subst g
      simp [mX2_meeting_b2, oI]
    · simp (disch := omega) [mX2_meeting_b2, c0, Option.bind_some, nI_leE, nI_ltE, nI_eqE, nI_1, nI_add, rdI_n, rdL_n, wrI_n, wrL_n, has6b, has9b, bI_0, bI_1, nI_m1, nI_lt0, nI_le0, nI_0le, nI_eq0, leF, leT, ltF, ltT, eqF, oI]
  · rw [if_neg e]
    refine (lpS nI (fun j => (pmB P Q j).testBit p && (pmB P Q j).testBit q) n nI (-1) rfl (fun k hk _ => ?_) (fun _ => ?_) (by omega)).trans ?_
    · have ⟨a, b⟩ := h k hk
      cases h1 : (pmB P Q k).testBit p <;> cases h2 : (pmB P Q k).testBit q <;> simp (disch := omega) [mX2_meeting_b2, Option.bind_some, nI_leE, nI_ltE, nI_eqE, nI_1, nI_add, rdI_n, rdL_n, wrI_n, wrL_n, has6b, has9b, bI_0, bI_1, nI_m1, nI_lt0, nI_le0, nI_0le, nI_eq0, leF, leT, ltF, ltT, eqF, a, h1, h2, e]
    · simp (disch := omega) [mX2_meeting_b2, Option.bind_some, nI_leE, nI_ltE, nI_eqE, nI_1, nI_add, rdI_n, rdL_n, wrI_n, wrL_n, has6b, has9b, bI_0, bI_1, nI_m1, nI_lt0, nI_le0, nI_0le, nI_eq0, leF, leT, ltF, ltT, eqF]
    · rw [oI_def]; rfl
theorem meet9 {F N p q j : Nat} {P Q : Nat → Nat} {parts : Nat → Int32} (hF : 1000 ≤ F) (hN : N ≤ 24) (hp : p < 31) (hq : q < 31) (h : ∀ j, j < N - 1 → parts j = nI (pmB P Q j) ∧ pmB P Q j < 2 ^ 31) (hj : meB P Q p q (N - 1) = some j) :
    loop (fun s30 => mX9_meets_b30 F (nI p) (nI q) parts s30) F (0 : Int32) = some (nI j, (0 : Int32)) := by
  refine (lpS nI (fun j => (pmB P Q j).testBit p && (pmB P Q j).testBit q) (N - 1) (fun k => (nI k, (0 : Int32))) (-1, 0) rfl (fun k hk _ => ?_) (fun g => ?_) (by omega)).trans ?_
  · have ⟨a, b⟩ := h k hk
    cases h1 : (pmB P Q k).testBit p <;> cases h2 : (pmB P Q k).testBit q <;> simp (disch := omega) [mX9_meets_b30, Option.bind_some, nI_leE, nI_ltE, nI_eqE, nI_1, nI_add, rdI_n, rdL_n, wrI_n, wrL_n, has6b, has9b, bI_0, bI_1, nI_m1, nI_lt0, nI_le0, nI_0le, nI_eq0, leF, leT, ltF, ltT, eqF, a, h1, h2]
  · have e : meB P Q p q (N - 1) = none := fstB_none.mpr g
    rw [e] at hj
    cases hj
  · have : fstB (fun j => (pmB P Q j).testBit p && (pmB P Q j).testBit q) (N - 1) = some j := hj
    rw [this]
def mkrB (P Q : Nat → Nat) (m n : Nat) : Option Nat := fstB (fun j => decide (pmB P Q j = m)) n
theorem maker2 {F n m : Nat} {P Q : Nat → Nat} {parts : Nat → Int32} (hF : 1000 ≤ F) (hn : n ≤ 24) (hm : m < 2 ^ 31) (h : ∀ j, j < n → parts j = nI (pmB P Q j) ∧ pmB P Q j < 2 ^ 31) : mX2_makerOf F (nI m) (nI n) parts = some (oI (mkrB P Q m n)) := by
  unfold mX2_makerOf
  refine (lpS nI (fun j => decide (pmB P Q j = m)) n nI (-1) rfl (fun k hk _ => ?_) (fun _ => ?_) (by omega)).trans ?_
  · have ⟨a, b⟩ := h k hk
    by_cases h1 : pmB P Q k = m
    · have h2 : nI (pmB P Q k) = nI m := congrArg nI h1
      simp (disch := omega) [mX2_makerOf_b2, nI_leE, leF, rdI_n, nI_1, a, h1]
    · have h2 : ¬ nI (pmB P Q k) = nI m := by rw [nI_eqE b hm]; exact h1
      simp (disch := omega) [mX2_makerOf_b2, nI_leE, leF, rdI_n, nI_1, a, h1, h2]
  · simp (disch := omega) [mX2_makerOf_b2, Option.bind_some, nI_leE, nI_ltE, nI_eqE, nI_1, nI_add, rdI_n, rdL_n, wrI_n, wrL_n, has6b, has9b, bI_0, bI_1, nI_m1, nI_lt0, nI_le0, nI_0le, nI_eq0, leF, leT, ltF, ltT, eqF]
  · rw [oI_def]; rfl
theorem maker9 {F N m : Nat} {P Q : Nat → Nat} {parts : Nat → Int32} (hF : 1000 ≤ F) (hN : N ≤ 24) (hm : m < 2 ^ 31) (h : ∀ j, j < N - 1 → parts j = nI (pmB P Q j) ∧ pmB P Q j < 2 ^ 31) : mX9_makerOf F (nI m) (nI N) parts = some (oI (mkrB P Q m (N - 1))) := by
  have j9 := joins9 (F := F) hN
  unfold mX9_makerOf
  refine (lpS nI (fun j => decide (pmB P Q j = m)) (N - 1) nI (-1) rfl (fun k hk _ => ?_) (fun _ => ?_) (by omega)).trans ?_
  · have ⟨a, b⟩ := h k hk
    by_cases h1 : pmB P Q k = m
    · simp (disch := omega) [mX9_makerOf_b2, nI_leE, leF, rdI_n, nI_1, j9, a, h1]
    · have h2 : ¬ nI (pmB P Q k) = nI m := by rw [nI_eqE b hm]; exact h1
      simp (disch := omega) [mX9_makerOf_b2, nI_leE, leF, rdI_n, nI_1, j9, a, h1, h2]
  · simp (disch := omega) [mX9_makerOf_b2, Option.bind_some, nI_leE, nI_ltE, nI_eqE, nI_1, nI_add, rdI_n, rdL_n, wrI_n, wrL_n, has6b, has9b, bI_0, bI_1, nI_m1, nI_lt0, nI_le0, nI_0le, nI_eq0, leF, leT, ltF, ltT, eqF, j9]
  · rw [oI_def]; rfl
/-- how many joins are within a zoom's radius -/
def rad (z : Nat) : Nat := 1024 / 2 ^ z
def jwB (A : Nat → Nat) (n z : Nat) : Nat := match fstB (fun j => decide (rad z * rad z < A j)) n with
  | some j => j
  | none => n
theorem jwB_le (A : Nat → Nat) (n z : Nat) : jwB A n z ≤ n := by
  unfold jwB
  cases h : fstB (fun j => decide (rad z * rad z < A j)) n with
  | none => exact Nat.le_refl _
  | some j => exact Nat.le_of_lt (fstB_lt h)
theorem rad_le (z : Nat) : rad z ≤ 1024 := Nat.div_le_self _ _
theorem rad_sq (z : Nat) : rad z * rad z ≤ 1048576 := Nat.mul_le_mul (rad_le z) (rad_le z)
theorem radI {z : Nat} (hz : z ≤ 10) : (1024 : Int32) >>> (nI z &&& 31) = nI (rad z) := nI_shr (m := 1024) (by omega) (by omega)
theorem within2 {F n z : Nat} {A : Nat → Nat} {aparts : Nat → Int32} (hF : 1000 ≤ F) (hn : n ≤ 24) (hz : z ≤ 10) (h : ∀ j, j < n → aparts j = nI (A j) ∧ A j < 4194304) : mX2_joinsWithin F (nI z) (nI n) aparts = some (nI (jwB A n z)) := by
  have hr := rad_le z
  have hr2 := rad_sq z
  unfold mX2_joinsWithin
  rw [radI hz]
  simp only [Option.bind_some]
  refine (lpS nI (fun j => decide (rad z * rad z < A j)) n nI (nI n) rfl (fun k hk _ => ?_) (fun _ => ?_) (by omega)).trans ?_
  · have ⟨a, b⟩ := h k hk
    by_cases h1 : rad z * rad z < A k <;> simp (disch := omega) [mX2_joinsWithin_b8, Option.bind_some, nI_leE, nI_ltE, nI_eqE, nI_1, nI_add, rdI_n, rdL_n, wrI_n, wrL_n, has6b, has9b, bI_0, bI_1, nI_m1, nI_lt0, nI_le0, nI_0le, nI_eq0, leF, leT, ltF, ltT, eqF, pk_mul, a, h1]
  · simp (disch := omega) [mX2_joinsWithin_b8, Option.bind_some, nI_leE, nI_ltE, nI_eqE, nI_1, nI_add, rdI_n, rdL_n, wrI_n, wrL_n, has6b, has9b, bI_0, bI_1, nI_m1, nI_lt0, nI_le0, nI_0le, nI_eq0, leF, leT, ltF, ltT, eqF]
  · unfold jwB
    cases fstB (fun j => decide (rad z * rad z < A j)) n <;> rfl
theorem radius9 {F z : Nat} (hz : z ≤ 10) : mX9_radius F (nI z) = some (nI (rad z)) := by
  unfold mX9_radius
  rw [radI hz]
theorem joinsOf9_b {F N z k : Nat} {A : Nat → Nat} {aparts : Nat → Int32} (hN : N ≤ 24) (hz : z ≤ 10) (hk : k < N - 1) (a : aparts k = nI (A k)) (b : A k < 4194304) :
    mX9_joinsOf_b2 F (nI z) (nI N) aparts (nI k) = if decide (rad z * rad z < A k) = true then some (.inr (nI k)) else some (.inl (nI (k + 1))) := by
  have hr2 := rad_sq z
  have j9 := joins9 (F := F) hN
  have r9 := radius9 (F := F) hz
  unfold mX9_joinsOf_b2
  rw [j9, r9]
  simp only [Option.bind_some]
  rw [if_neg (fun g => by rw [nI_leE (by omega) (by omega)] at g; omega), rdI_n (by omega) (by omega), a]
  simp only [Option.bind_some]
  rw [pk_mul, nI_1]
  by_cases h1 : rad z * rad z < A k
  · rw [if_pos ((nI_ltI (by omega) (by omega)).mpr h1), if_pos (decide_eq_true h1)]
  · rw [if_neg (fun g => h1 ((nI_ltI (by omega) (by omega)).mp g)), if_neg (by rw [decide_eq_false h1]; decide)]
theorem joinsOf9_e {F N z : Nat} {aparts : Nat → Int32} (hN : N ≤ 24) : mX9_joinsOf_b2 F (nI z) (nI N) aparts (nI (N - 1)) = some (.inr (nI (N - 1))) := by
  have j9 := joins9 (F := F) hN
  unfold mX9_joinsOf_b2
  rw [j9]
  simp only [Option.bind_some]
  rw [if_pos (by rw [nI_leE (by omega) (by omega)]; omega)]
theorem joinsOf9 {F N z : Nat} {A : Nat → Nat} {aparts : Nat → Int32} (hF : 1000 ≤ F) (hN : N ≤ 24) (hz : z ≤ 10) (h : ∀ j, j < N - 1 → aparts j = nI (A j) ∧ A j < 4194304) : mX9_joinsOf F (nI z) (nI N) aparts = some (nI (jwB A (N - 1) z)) := by
  unfold mX9_joinsOf
  refine (lpS nI (fun j => decide (rad z * rad z < A j)) (N - 1) nI (nI (N - 1)) rfl (fun k hk _ => joinsOf9_b hN hz hk (h k hk).1 (h k hk).2) (fun _ => joinsOf9_e hN) (by omega)).trans ?_
  unfold jwB
  cases fstB (fun j => decide (rad z * rad z < A j)) (N - 1) <;> rfl
theorem partOf2 {F n m p : Nat} {P Q : Nat → Nat} {parts : Nat → Int32} (hF : 1000 ≤ F) (hn : n ≤ 24) (hm : m ≤ n) (hp : p < 31) (h : ∀ j, j < n → parts j = nI (pmB P Q j) ∧ pmB P Q j < 2 ^ 31) :
    mX2_partOf F (nI p) (nI m) (nI n) parts = some (nI (smB P Q m p)) := by
  unfold mX2_partOf
  have e1 : (if nI n < nI m then nI n else nI m) = nI m := if_neg (by rw [nI_ltE (by omega) (by omega)]; omega)
  have e2 : nI m - 1 = dn m := by
    cases m with
    | zero => rfl
    | succ m => exact nI_s1 (by omega)
  rw [e1]
  simp only [Option.bind_some]
  rw [e2]
  refine (lpD dn (fun j => (pmB P Q j).testBit p) (fun j => nI (pmB P Q j)) (nI (2 ^ p)) m rfl (fun k hk _ => ?_) (fun _ => ?_) (by omega)).trans ?_
  · have ⟨a, b⟩ := h k (by omega)
    cases h1 : (pmB P Q k).testBit p <;> simp (disch := omega) [mX2_partOf_b11, dn, dn_pred, Option.bind_some, nI_leE, nI_ltE, nI_eqE, nI_1, nI_add, rdI_n, rdL_n, wrI_n, wrL_n, has6b, has9b, bI_0, bI_1, nI_m1, nI_lt0, nI_le0, nI_0le, nI_eq0, leF, leT, ltF, ltT, eqF, a, h1]
  · have e := nI_bit hp
    simp [mX2_partOf_b11, dn, m1_lt0, e]
  · rw [sm_last]
    cases lstB (fun j => (pmB P Q j).testBit p) m <;> rfl
