/-! ===== PURE 10: joins made of keys ===== -/
/-- the part of a point by the first joins -/
def smB (P Q : Nat → Nat) : Nat → Nat → Nat
  | 0, p => 2 ^ p
  | j + 1, p => if (smB P Q j (P j) ||| smB P Q j (Q j)).testBit p = true then smB P Q j (P j) ||| smB P Q j (Q j) else smB P Q j p
def pmB (P Q : Nat → Nat) (j : Nat) : Nat := smB P Q j (P j) ||| smB P Q j (Q j)
def ndB (P Q : Nat → Nat) : Nat → Nat → Nat
  | 0, p => p
  | j + 1, p => if (pmB P Q j).testBit p = true then 100 + j else ndB P Q j p
/-- the joins above joins, and above points, after the first k joins -/
def jaB (P Q : Nat → Nat) : Nat → Nat → Option Nat
  | 0, _ => none
  | k + 1, i => if ndB P Q k (P k) = 100 + i ∨ ndB P Q k (Q k) = 100 + i then some k else if i = k then none else jaB P Q k i
def paB (P Q : Nat → Nat) : Nat → Nat → Option Nat
  | 0, _ => none
  | k + 1, i => if ndB P Q k (P k) = i ∨ ndB P Q k (Q k) = i then some k else paB P Q k i
theorem nd_or {P Q : Nat → Nat} : ∀ j p, ndB P Q j p = p ∧ smB P Q j p = 2 ^ p ∨ ∃ i, i < j ∧ ndB P Q j p = 100 + i ∧ smB P Q j p = pmB P Q i
  | 0, p => Or.inl ⟨rfl, rfl⟩
  | j + 1, p => by
    by_cases h : (pmB P Q j).testBit p = true
    · exact Or.inr ⟨j, by omega, if_pos h, if_pos h⟩
    · have e1 : ndB P Q (j + 1) p = ndB P Q j p := if_neg h
      have e2 : smB P Q (j + 1) p = smB P Q j p := if_neg h
      rcases nd_or (P := P) (Q := Q) j p with ⟨a, b⟩ | ⟨i, a, b, c⟩
      · exact Or.inl ⟨by rw [e1, a], by rw [e2, b]⟩
      · exact Or.inr ⟨i, by omega, by rw [e1, b], by rw [e2, c]⟩
theorem nd_lt {P Q : Nat → Nat} {j p : Nat} (hp : p < 24) (hj : j ≤ 24) : ndB P Q j p < 124 := by
  rcases nd_or (P := P) (Q := Q) j p with ⟨a, b⟩ | ⟨i, a, b, c⟩ <;> omega
theorem sm_lt {P Q : Nat → Nat} {N : Nat} : ∀ j, (∀ i, i < j → P i < N ∧ Q i < N) → ∀ p, p < N → smB P Q j p < 2 ^ N
  | 0, _, p, hp => Nat.pow_lt_pow_right (by omega) hp
  | j + 1, h, p, hp => by
    have ih := sm_lt (P := P) (Q := Q) (N := N) j (fun i hi => h i (by omega))
    have ⟨a, b⟩ := h j (by omega)
    simp only [smB]
    split
    · exact Nat.or_lt_two_pow (ih _ a) (ih _ b)
    · exact ih p hp
theorem pm_lt {P Q : Nat → Nat} {N j : Nat} (h : ∀ i, i < j + 1 → P i < N ∧ Q i < N) : pmB P Q j < 2 ^ N := by
  have ⟨a, b⟩ := h j (by omega)
  have ih := sm_lt (P := P) (Q := Q) (N := N) j (fun i hi => h i (by omega))
  exact Nat.or_lt_two_pow (ih _ a) (ih _ b)
theorem lt31 {a N : Nat} (h : a < 2 ^ N) (hN : N ≤ 24) : a < 2 ^ 31 := Nat.lt_of_lt_of_le h (Nat.pow_le_pow_right (by omega) (by omega))
/-- first and second points of the joins, by keys -/
def fP (K : Nat → Nat) : Nat → Nat := fun j => K j / 32 % 32
def fQ (K : Nat → Nat) : Nat → Nat := fun j => K j % 32
def plB (X Y : Nat → Nat) (p : Nat) : Nat := X p * 1024 + Y p
theorem setOf2 {F N j p : Nat} {P Q : Nat → Nat} {parts : Nat → Int32} (hN : N ≤ 24) (hj : j ≤ 24) (hp : p < N) (hpar : ∀ i, i < j → parts i = nI (pmB P Q i)) :
    mX2_setOf F (nI (ndB P Q j p)) parts = some (nI (smB P Q j p)) := by
  unfold mX2_setOf mX2_joinOf
  rcases nd_or (P := P) (Q := Q) j p with ⟨a, b⟩ | ⟨i, a, b, c⟩
  · rw [a, b]
    have e : (1 : Int32) <<< (nI p &&& 31) = nI (2 ^ p) := nI_bit (by omega)
    simp (disch := omega) [c100, Option.bind_some, nI_leE, nI_ltE, nI_eqE, nI_1, nI_add, rdI_n, rdL_n, wrI_n, wrL_n, has6b, has9b, bI_0, bI_1, nI_m1, nI_lt0, nI_le0, nI_0le, nI_eq0, leF, leT, ltF, ltT, eqF, e]
  · rw [b, c]
    have e : nI (100 + i) - 100 = nI i := by rw [c100, pk_sub (by omega)]; congr 1; omega
    have e2 := hpar i a
    have m1 : (nI i = -1) = False := nI_m1 (by omega)
    have q1 : ¬ (nI (100 + i) < (100 : Int32)) := by rw [c100, nI_ltE (by omega) (by omega)]; omega
    have q2 : ¬ ((124 : Int32) ≤ nI (100 + i)) := by rw [c124, nI_leE (by omega) (by omega)]; omega
    rw [if_neg q1, if_neg q2, e]
    simp (disch := omega) [Option.bind_some, nI_leE, nI_ltE, nI_eqE, nI_1, nI_add, rdI_n, rdL_n, wrI_n, wrL_n, has6b, has9b, bI_0, bI_1, nI_m1, nI_lt0, nI_le0, nI_0le, nI_eq0, leF, leT, ltF, ltT, eqF, e2]
/-- the rows of joins above: after a node was put below the join k -/
def abJ (k : Nat) (f : Nat → Int32) (n : Nat) : Nat → Int32 := fun i => if n = 100 + i then nI k else f i
def abP (k : Nat) (f : Nat → Int32) (n : Nat) : Nat → Int32 := fun i => if n = i then nI k else f i
theorem putBelow2 {F n k : Nat} (hn : n < 24 ∨ 100 ≤ n ∧ n < 124) (ja pa : Nat → Int32) :
    ∃ ja' pa', mX2_putBelow F (nI n) (nI k) ja pa = some (ja', pa') ∧ (∀ i, ja' i = abJ k ja n i) ∧ (∀ i, i < 24 → pa' i = abP k pa n i) := by
  unfold mX2_putBelow mX2_joinOf abJ abP
  rcases hn with hn | ⟨h1, h2⟩
  · refine ⟨ja, upd pa n (nI k), ?_, fun i => by rw [if_neg (by omega)], fun i hi => ?_⟩
    · simp (disch := omega) [c100, c24, Option.bind_some, nI_leE, nI_ltE, nI_eqE, nI_1, nI_add, rdI_n, rdL_n, wrI_n, wrL_n, has6b, has9b, bI_0, bI_1, nI_m1, nI_lt0, nI_le0, nI_0le, nI_eq0, leF, leT, ltF, ltT, eqF]
    · by_cases e : n = i
      · subst e; rw [pk_us, if_pos rfl]
      · rw [pk_un (Ne.symm e), if_neg e]
  · have e : nI n - 100 = nI (n - 100) := by rw [c100, pk_sub h1]
    have q1 : ¬ (nI n < (100 : Int32)) := by rw [c100, nI_ltE (by omega) (by omega)]; omega
    have q2 : ¬ ((124 : Int32) ≤ nI n) := by rw [c124, nI_leE (by omega) (by omega)]; omega
    refine ⟨upd ja (n - 100) (nI k), pa, ?_, fun i => ?_, fun i hi => by rw [if_neg (by omega)]⟩
    · rw [if_neg q1, if_neg q2, e]
      simp (disch := omega) [Option.bind_some, nI_leE, nI_ltE, nI_eqE, nI_1, nI_add, rdI_n, rdL_n, wrI_n, wrL_n, has6b, has9b, bI_0, bI_1, nI_m1, nI_lt0, nI_le0, nI_0le, nI_eq0, leF, leT, ltF, ltT, eqF]
    · by_cases e : n = 100 + i
      · rw [if_pos e, show n - 100 = i by omega, pk_us]
      · rw [if_neg e, pk_un (by omega)]
theorem puts9 {F n k : Nat} (hn : n < 24 ∨ 100 ≤ n ∧ n < 124) (ja pa : Nat → Int32) :
    ∃ ja' pa', mX9_puts F (nI n) (nI k) ja pa = some (ja', pa') ∧ (∀ i, ja' i = abJ k ja n i) ∧ (∀ i, i < 24 → pa' i = abP k pa n i) := by
  unfold mX9_puts abJ abP
  rcases hn with hn | ⟨h1, h2⟩
  · refine ⟨ja, upd pa n (nI k), ?_, fun i => by rw [if_neg (by omega)], fun i hi => ?_⟩
    · simp (disch := omega) [c100, Option.bind_some, nI_leE, nI_ltE, nI_eqE, nI_1, nI_add, rdI_n, rdL_n, wrI_n, wrL_n, has6b, has9b, bI_0, bI_1, nI_m1, nI_lt0, nI_le0, nI_0le, nI_eq0, leF, leT, ltF, ltT, eqF]
    · by_cases e : n = i
      · subst e; rw [pk_us, if_pos rfl]
      · rw [pk_un (Ne.symm e), if_neg e]
  · have e : nI n - 100 = nI (n - 100) := by rw [c100, pk_sub h1]
    have q1 : ((100 : Int32) ≤ nI n) := by rw [c100, nI_leE (by omega) (by omega)]; omega
    refine ⟨upd ja (n - 100) (nI k), pa, ?_, fun i => ?_, fun i hi => by rw [if_neg (by omega)]⟩
    · rw [if_pos q1, e]
      simp (disch := omega) [Option.bind_some, nI_leE, nI_ltE, nI_eqE, nI_1, nI_add, rdI_n, rdL_n, wrI_n, wrL_n, has6b, has9b, bI_0, bI_1, nI_m1, nI_lt0, nI_le0, nI_0le, nI_eq0, leF, leT, ltF, ltT, eqF]
    · by_cases e : n = 100 + i
      · rw [if_pos e, show n - 100 = i by omega, pk_us]
      · rw [if_neg e, pk_un (by omega)]
theorem nd_rng {P Q : Nat → Nat} {j p : Nat} (hp : p < 24) (hj : j ≤ 24) : ndB P Q j p < 24 ∨ 100 ≤ ndB P Q j p ∧ ndB P Q j p < 124 := by
  rcases nd_or (P := P) (Q := Q) j p with ⟨a, b⟩ | ⟨i, a, b, c⟩ <;> omega
theorem nd_ne {P Q : Nat → Nat} {j p : Nat} (hp : p < 24) : ndB P Q j p ≠ 100 + j := by
  rcases nd_or (P := P) (Q := Q) j p with ⟨a, b⟩ | ⟨i, a, b, c⟩ <;> omega
/-- both puts of a join, on rows that are right before -/
theorem above_step {P Q : Nat → Nat} {k N : Nat} (hN : N ≤ 24) (hk : k < 24) (ha : P k < N) (hb : Q k < N) {ja pa ja1 pa1 ja2 pa2 : Nat → Int32}
    (h1 : ∀ i, i < k → ja i = oI (jaB P Q k i)) (h2 : ∀ i, i < N → pa i = oI (paB P Q k i))
    (g1 : ∀ i, ja1 i = abJ k (upd ja k (-1)) (ndB P Q k (P k)) i) (g2 : ∀ i, i < 24 → pa1 i = abP k pa (ndB P Q k (P k)) i)
    (g3 : ∀ i, ja2 i = abJ k ja1 (ndB P Q k (Q k)) i) (g4 : ∀ i, i < 24 → pa2 i = abP k pa1 (ndB P Q k (Q k)) i) :
    (∀ i, i < k + 1 → ja2 i = oI (jaB P Q (k + 1) i)) ∧ (∀ i, i < N → pa2 i = oI (paB P Q (k + 1) i)) := by
  refine ⟨fun i hi => ?_, fun i hi => ?_⟩
  · rw [g3]
    unfold abJ
    simp only [jaB]
    by_cases e2 : ndB P Q k (Q k) = 100 + i
    · rw [if_pos e2, if_pos (Or.inr e2)]; rfl
    · rw [if_neg e2, g1]
      unfold abJ
      by_cases e1 : ndB P Q k (P k) = 100 + i
      · rw [if_pos e1, if_pos (Or.inl e1)]; rfl
      · rw [if_neg e1, if_neg (fun h => h.elim e1 e2)]
        by_cases e : i = k
        · subst e; rw [pk_us, if_pos rfl]; rfl
        · rw [pk_un e, if_neg e, h1 i (by omega)]
  · rw [g4 i (by omega)]
    unfold abP
    simp only [paB]
    by_cases e2 : ndB P Q k (Q k) = i
    · rw [if_pos e2, if_pos (Or.inr e2)]; rfl
    · rw [if_neg e2, g2 i (by omega)]
      unfold abP
      by_cases e1 : ndB P Q k (P k) = i
      · rw [if_pos e1, if_pos (Or.inl e1)]; rfl
      · rw [if_neg e1, if_neg (fun h => h.elim e1 e2), h2 i hi]
theorem place2 {F N p : Nat} {X Y : Nat → Nat} {xs ys : Nat → Int32} (hN : N ≤ 24) (hP : PT N X Y xs ys) (hI : IN N X Y) (hp : p < N) : mX2_placeOf F (nI p) xs ys = some (lN (plB X Y p)) := by
  have ⟨p1, p2⟩ := hP p hp
  have ⟨a1, a2⟩ := hI p hp
  have e10 : lN (X p) <<< (((10 : Int32)).toInt64 &&& 63) = lN (X p * 2 ^ 10) := lN_shl _ 10 s64_10 (by omega)
  simp (disch := omega) only [mX2_placeOf, rdI_n, Option.bind_some, p1, p2, nI_l, e10]
  rw [lN_or (by omega) (by omega), or_add (by omega)]
  rfl
theorem pl_lt {N p : Nat} {X Y : Nat → Nat} (hI : IN N X Y) (hp : p < N) : plB X Y p < 1048576 := by
  have ⟨a1, a2⟩ := hI p hp
  unfold plB
  omega
def pairB (X Y K : Nat → Nat) (j : Nat) : Nat := plB X Y (fP K j) * 1048576 + plB X Y (fQ K j)
/-- what the rows of joins hold, for the first k joins -/
def JOINS (X Y K : Nat → Nat) (k : Nat) (aparts fs firsts os parts roots seconds : Nat → Int32) (pairs : Nat → Int64) : Prop :=
  ∀ j, j < k → aparts j = nI (K j / 1024) ∧ fs j = nI (ndB (fP K) (fQ K) j (fP K j)) ∧ firsts j = nI (fP K j) ∧ os j = nI (ndB (fP K) (fQ K) j (fQ K j)) ∧ parts j = nI (pmB (fP K) (fQ K) j) ∧
    roots j = nI (rt (K j / 1024)) ∧ seconds j = nI (fQ K j) ∧ pairs j = lN (pairB X Y K j)
theorem key_p {k : Nat} (h : k < 2 ^ 63) : ((lN k >>> (((5 : Int32)).toInt64 &&& 63)) &&& (31 : Int64)).toInt32 = nI (k / 32 % 32) := by
  have h2 : k / 2 ^ 5 ≤ k := Nat.div_le_self _ _
  rw [lN_shr h _ 5 s64_5, show (31 : Int64) = lN 31 from rfl, lN_and (by omega) (by omega), lN_i, show (31 : Nat) = 2 ^ 5 - 1 from rfl, Nat.and_two_pow_sub_one_eq_mod]
theorem key_q {k : Nat} (h : k < 2 ^ 63) : (lN k &&& (31 : Int64)).toInt32 = nI (k % 32) := by
  rw [show (31 : Int64) = lN 31 from rfl, lN_and h (by omega), lN_i, show (31 : Nat) = 2 ^ 5 - 1 from rfl, Nat.and_two_pow_sub_one_eq_mod]
theorem key_a {k : Nat} (h : k < 2 ^ 63) : (lN k >>> (((10 : Int32)).toInt64 &&& 63)).toInt32 = nI (k / 1024) := by
  rw [lN_shr h _ 10 s64_10, lN_i]
theorem upd_all {f : Nat → Int32} {g : Nat → Int32} {k : Nat} {v : Int32} (h : ∀ j, j < k → f j = g j) (hv : v = g k) : ∀ j, j < k + 1 → upd f k v j = g j := by
  intro j hj
  by_cases e : j = k
  · subst e; rw [pk_us, hv]
  · rw [pk_un e]; exact h j (by omega)
theorem updL_all {f : Nat → Int64} {g : Nat → Int64} {k : Nat} {v : Int64} (h : ∀ j, j < k → f j = g j) (hv : v = g k) : ∀ j, j < k + 1 → vp_updL f k v j = g j := by
  intro j hj
  by_cases e : j = k
  · subst e; rw [pk_uLs, hv]
  · rw [pk_uLn e]; exact h j (by omega)
theorem nodes2 {F N k : Nat} {P Q : Nat → Nat} {nodes g25 : Nat → Int32} (hF : 1000 ≤ F) (hN : N ≤ 24) (hk : k < 24) (hm : pmB P Q k < 2 ^ 31) (hg : g25 k = nI (pmB P Q k)) (hn : ∀ p, p < N → nodes p = nI (ndB P Q k p))
    (g8 g11 g12 g13 : Nat → Int32) (g16 : Nat → Int64) (g18 g20 r1 r2 : Nat → Int32) :
    ∃ nodes', loop (fun s197 : Int32 × (Nat → Int32) => mX2_makeJoin_b197 F (nI k) (nI N) g8 g11 g12 g13 g16 g18 g20 g25 r1 r2 s197.1 s197.2) F ((0 : Int32), nodes) = some (g8, g18, g12, r1, nodes', g20, g16, g25, r2, g11, g13) ∧
      ∀ p, p < N → nodes' p = nI (ndB P Q (k + 1) p) := by
  refine Exists.elim (lpI (body := fun s197 : Int32 × (Nat → Int32) => mX2_makeJoin_b197 F (nI k) (nI N) g8 g11 g12 g13 g16 g18 g20 g25 r1 r2 s197.1 s197.2) (F := F)
    (fun i (t : Nat → Int32) => (nI i, t)) (fun i t => ∀ p, p < N → t p = if p < i then nI (ndB P Q (k + 1) p) else nI (ndB P Q k p)) 0 N (fun t => (g8, g18, g12, r1, t, g20, g16, g25, r2, g11, g13)) nodes (by omega) (s0 := ((0 : Int32), nodes)) rfl
    (fun p hp => by rw [if_neg (by omega)]; exact hn p hp) (fun i t _ hi hI2 => ?_) (fun t hI2 => ?_) (by omega)) ?_
  rotate_right 1
  · intro t hh_; obtain ⟨e, g⟩ := hh_
    exact ⟨t, e, fun p hp => by have := g p hp; rw [if_pos hp] at this; exact this⟩
  · cases hb : (pmB P Q k).testBit i with
    | true =>
      have e1 : ndB P Q (k + 1) i = 100 + k := if_pos hb
      refine ⟨upd t i (nI (100 + k)), by simp (disch := omega) [mX2_makeJoin_b197, c100, Option.bind_some, nI_leE, nI_ltE, nI_eqE, nI_1, nI_add, rdI_n, rdL_n, wrI_n, wrL_n, has6b, has9b, bI_0, bI_1, nI_m1, nI_lt0, nI_le0, nI_0le, nI_eq0, leF, leT, ltF, ltT, eqF, hg, hb], fun p hp => ?_⟩
      by_cases e2 : p = i
      · subst e2; rw [pk_us, if_pos (by omega), e1]
      · rw [pk_un e2, hI2 p hp]
        by_cases e3 : p < i
        · rw [if_pos e3, if_pos (by omega)]
        · rw [if_neg e3, if_neg (by omega)]
    | false =>
      have e1 : ndB P Q (k + 1) i = ndB P Q k i := if_neg (by rw [hb]; decide)
      refine ⟨t, by simp (disch := omega) [mX2_makeJoin_b197, Option.bind_some, nI_leE, nI_ltE, nI_eqE, nI_1, nI_add, rdI_n, rdL_n, wrI_n, wrL_n, has6b, has9b, bI_0, bI_1, nI_m1, nI_lt0, nI_le0, nI_0le, nI_eq0, leF, leT, ltF, ltT, eqF, hg, hb], fun p hp => ?_⟩
      rw [hI2 p hp]
      by_cases e2 : p = i
      · subst e2; rw [if_neg (by omega), if_pos (by omega), e1]
      · by_cases e3 : p < i
        · rw [if_pos e3, if_pos (by omega)]
        · rw [if_neg e3, if_neg (by omega)]
  · simp (disch := omega) [mX2_makeJoin_b197, Option.bind_some, nI_leE, nI_ltE, nI_eqE, nI_1, nI_add, rdI_n, rdL_n, wrI_n, wrL_n, has6b, has9b, bI_0, bI_1, nI_m1, nI_lt0, nI_le0, nI_0le, nI_eq0, leF, leT, ltF, ltT, eqF]
theorem pair_l {a b : Nat} (ha : a < 1048576) (hb : b < 1048576) : (lN a <<< (((20 : Int32)).toInt64 &&& 63)) ||| lN b = lN (a * 1048576 + b) := by
  rw [lN_shl _ 20 s64_20 (by omega), lN_or (by omega) (by omega), or_add (by omega)]
theorem makeJoin2 {F N k : Nat} {X Y K : Nat → Nat} {xs ys aparts fs firsts ja nodes os parts pa roots seconds : Nat → Int32} {keys pairs : Nat → Int64} (hF : 1000 ≤ F) (hN : N ≤ 24) (hP : PT N X Y xs ys) (hI : IN N X Y)
    (hK : ∀ i, i < k + 1 → isK X Y N (K i)) (hk : k + 1 < N) (hkey : keys k = lN (K k)) (hJ : JOINS X Y K k aparts fs firsts os parts roots seconds pairs)
    (h1 : ∀ i, i < k → ja i = oI (jaB (fP K) (fQ K) k i)) (h2 : ∀ i, i < N → pa i = oI (paB (fP K) (fQ K) k i)) (h3 : ∀ p, p < N → nodes p = nI (ndB (fP K) (fQ K) k p)) :
    ∃ r, mX2_makeJoin F (nI k) (nI N) aparts fs firsts ja keys nodes os pairs parts xs ys pa roots seconds = some r ∧
      JOINS X Y K (k + 1) r.1 r.2.1 r.2.2.1 r.2.2.2.2.2.1 r.2.2.2.2.2.2.2.1 r.2.2.2.2.2.2.2.2.2.1 r.2.2.2.2.2.2.2.2.2.2 r.2.2.2.2.2.2.1 ∧
      (∀ i, i < k + 1 → r.2.2.2.1 i = oI (jaB (fP K) (fQ K) (k + 1) i)) ∧ (∀ i, i < N → r.2.2.2.2.2.2.2.2.1 i = oI (paB (fP K) (fQ K) (k + 1) i)) ∧ (∀ p, p < N → r.2.2.2.2.1 p = nI (ndB (fP K) (fQ K) (k + 1) p)) := by
  have ⟨k1, k2, k3, k4⟩ := isK_spec hN (hK k (by omega))
  have kl := isK_lt hN hI (hK k (by omega))
  have hpN : fP K k < N := by unfold fP; omega
  have hqN : fQ K k < N := k2
  have hPQ : ∀ i, i < k + 1 → fP K i < N ∧ fQ K i < N := fun i hi => by
    have ⟨a1, a2, _, _⟩ := isK_spec hN (hK i hi)
    unfold fP fQ
    omega
  have hpm := lt31 (pm_lt (j := k) hPQ) hN
  have hs1 := lt31 (sm_lt k (fun i hi => hPQ i (by omega)) _ hpN) hN
  have hs2 := lt31 (sm_lt k (fun i hi => hPQ i (by omega)) _ hqN) hN
  obtain ⟨j1, p1, e1, a1, b1⟩ := putBelow2 (F := F) (k := k) (nd_rng (P := fP K) (Q := fQ K) (j := k) (p := fP K k) (by omega) (by omega)) (upd ja k (-1)) pa
  obtain ⟨j2, p2, e2, a2, b2⟩ := putBelow2 (F := F) (k := k) (nd_rng (P := fP K) (Q := fQ K) (j := k) (p := fQ K k) (by omega) (by omega)) j1 p1
  have ⟨st1, st2⟩ := above_step hN (by omega) hpN hqN h1 h2 a1 b1 a2 b2
  have ra : K k / 1024 < 4194304 := by omega
  obtain ⟨nodes', en, gn⟩ := nodes2 (F := F) (g25 := upd parts k (nI (pmB (fP K) (fQ K) k))) hF hN (by omega) hpm (pk_us) h3
    (upd aparts k (nI (K k / 1024))) (upd roots k (nI (rt (K k / 1024)))) (upd firsts k (nI (fP K k))) (upd seconds k (nI (fQ K k)))
    (vp_updL pairs k (lN (pairB X Y K k))) (upd fs k (nI (ndB (fP K) (fQ K) k (fP K k)))) (upd os k (nI (ndB (fP K) (fQ K) k (fQ K k)))) j2 p2
  refine ⟨(upd aparts k (nI (K k / 1024)), upd fs k (nI (ndB (fP K) (fQ K) k (fP K k))), upd firsts k (nI (fP K k)), j2, nodes', upd os k (nI (ndB (fP K) (fQ K) k (fQ K k))), vp_updL pairs k (lN (pairB X Y K k)), upd parts k (nI (pmB (fP K) (fQ K) k)), p2, upd roots k (nI (rt (K k / 1024))), upd seconds k (nI (fQ K k))), ?_, ?_, st1, st2, gn⟩
  · have kp : ((lN (K k) >>> (((5 : Int32)).toInt64 &&& 63)) &&& (31 : Int64)).toInt32 = nI (fP K k) := key_p (by omega)
    have kq : (lN (K k) &&& (31 : Int64)).toInt32 = nI (fQ K k) := key_q (by omega)
    have ka := key_a (k := K k) (by omega)
    have so1 := setOf2 (F := F) (N := N) (j := k) (p := fP K k) (P := fP K) (Q := fQ K) (parts := parts) hN (by omega) hpN (fun i hi => (hJ i hi).2.2.2.2.1)
    have so2 := setOf2 (F := F) (N := N) (j := k) (p := fQ K k) (P := fP K) (Q := fQ K) (parts := parts) hN (by omega) hqN (fun i hi => (hJ i hi).2.2.2.2.1)
    have pl1 := place2 (F := F) hN hP hI hpN
    have pl2 := place2 (F := F) hN hP hI hqN
    have pq := pair_l (pl_lt (Y := Y) hI hpN) (pl_lt (Y := Y) hI hqN)
    have n1 := h3 _ hpN
    have n2 := h3 _ hqN
    have ro := root6 (F := F) hF ra
    have oo : nI (smB (fP K) (fQ K) k (fP K k)) ||| nI (smB (fP K) (fQ K) k (fQ K k)) = nI (pmB (fP K) (fQ K) k) := nI_or hs1 hs2
    have pe : pairB X Y K k = plB X Y (fP K k) * 1048576 + plB X Y (fQ K k) := rfl
    rw [← pe] at pq
    unfold mX2_makeJoin
    simp (disch := omega) only [rdL_n, hkey, Option.bind_some, kp, kq, ka, nI_leE, nI_ltE, leF, ltT, if_false, if_true, wrI_n, wrL_n, rdI_n, pk_us, ro, pl1, pl2, pq, n1, n2, so1, so2, oo, e1, e2]
    exact en
  · intro j hj
    refine ⟨upd_all (g := fun j => nI (K j / 1024)) (fun i hi => (hJ i hi).1) rfl j hj, upd_all (g := fun j => nI (ndB (fP K) (fQ K) j (fP K j))) (fun i hi => (hJ i hi).2.1) rfl j hj,
      upd_all (g := fun j => nI (fP K j)) (fun i hi => (hJ i hi).2.2.1) rfl j hj, upd_all (g := fun j => nI (ndB (fP K) (fQ K) j (fQ K j))) (fun i hi => (hJ i hi).2.2.2.1) rfl j hj,
      upd_all (g := fun j => nI (pmB (fP K) (fQ K) j)) (fun i hi => (hJ i hi).2.2.2.2.1) rfl j hj, upd_all (g := fun j => nI (rt (K j / 1024))) (fun i hi => (hJ i hi).2.2.2.2.2.1) rfl j hj,
      upd_all (g := fun j => nI (fQ K j)) (fun i hi => (hJ i hi).2.2.2.2.2.2.1) rfl j hj, updL_all (g := fun j => lN (pairB X Y K j)) (fun i hi => (hJ i hi).2.2.2.2.2.2.2) rfl j hj⟩
/-- the keys of the tree of N points -/
def KK (X Y : Nat → Nat) (N : Nat) : Nat → Nat := KS X Y N (N - 1)
theorem KK_isK {X Y : Nat → Nat} {N : Nat} (hN : N ≤ 24) {j : Nat} (hj : j < N - 1) : isK X Y N (KK X Y N j) := KS_isK hN (N - 1) (by omega) j hj
theorem KK_PQ {X Y : Nat → Nat} {N : Nat} (hN : N ≤ 24) {j : Nat} (hj : j < N - 1) : fP (KK X Y N) j < fQ (KK X Y N) j ∧ fQ (KK X Y N) j < N := by
  have ⟨a, b, _, _⟩ := isK_spec hN (KK_isK (X := X) (Y := Y) hN hj)
  exact ⟨a, b⟩
theorem KK_lt {X Y : Nat → Nat} {N : Nat} (hN : N ≤ 24) {i : Nat} (hi : i < N - 1) : fP (KK X Y N) i < N ∧ fQ (KK X Y N) i < N := by
  have := KK_PQ (X := X) (Y := Y) hN hi
  omega
/-- the class's rows hold the tree -/
def TR2 (X Y : Nat → Nat) (N : Nat) (aparts fs firsts ja os parts pa roots seconds : Nat → Int32) (pairs : Nat → Int64) : Prop :=
  JOINS X Y (KK X Y N) (N - 1) aparts fs firsts os parts roots seconds pairs ∧ (∀ i, i < N - 1 → ja i = oI (jaB (fP (KK X Y N)) (fQ (KK X Y N)) (N - 1) i)) ∧ (∀ i, i < N → pa i = oI (paB (fP (KK X Y N)) (fQ (KK X Y N)) (N - 1) i))
theorem rebuild2 {F N : Nat} {X Y : Nat → Nat} {xs ys : Nat → Int32} (hF : 1000 ≤ F) (hN : N ≤ 24) (hP : PT N X Y xs ys) (hI : IN N X Y) (c : Int32) (aparts fs firsts ja : Nat → Int32) (keys links : Nat → Int64) (nodes os : Nat → Int32) (pairs : Nat → Int64) (parts pa roots seconds : Nat → Int32) :
    ∃ r, mX2_rebuild F c (nI N) aparts fs firsts ja keys links nodes os pairs parts xs ys pa roots seconds = some r ∧ r.1 = nI (N - 1) ∧
      TR2 X Y N r.2.1 r.2.2.1 r.2.2.2.1 r.2.2.2.2.1 r.2.2.2.2.2.2.2.2.1 r.2.2.2.2.2.2.2.2.2.2.1 r.2.2.2.2.2.2.2.2.2.2.2.1 r.2.2.2.2.2.2.2.2.2.2.2.2.1 r.2.2.2.2.2.2.2.2.2.2.2.2.2 r.2.2.2.2.2.2.2.2.2.1 := by
  obtain ⟨keys', links', e1, g1⟩ := growTree2 (F := F) hF hN hP hI c keys links
  have hk1 : N - 1 < F := by omega
  obtain ⟨t2, e2, g2⟩ := lpI (body := fun s6 : Int32 × (Nat → Int32) × (Nat → Int32) => mX2_rebuild_b6 F (nI N) s6.1 s6.2.1 s6.2.2) (F := F)
    (fun k (t : (Nat → Int32) × (Nat → Int32)) => (nI k, t)) (fun k t => ∀ p, p < k → t.1 p = nI p ∧ t.2 p = -1) 0 N (fun t => t) (nodes, pa) (by omega) (s0 := ((0 : Int32), nodes, pa)) rfl
    (fun p hp => by omega) (fun k t _ hk hI2 => by
      refine ⟨(upd t.1 k (nI k), upd t.2 k (-1)), by simp (disch := omega) [mX2_rebuild_b6, Option.bind_some, nI_leE, nI_ltE, nI_eqE, nI_1, nI_add, rdI_n, rdL_n, wrI_n, wrL_n, has6b, has9b, bI_0, bI_1, nI_m1, nI_lt0, nI_le0, nI_0le, nI_eq0, leF, leT, ltF, ltT, eqF], fun p hp => ?_⟩
      by_cases e : p = k
      · subst e; simp only [pk_us, and_self]
      · simp only [pk_un e]; exact hI2 p (by omega)) (fun t hI2 => by simp (disch := omega) [mX2_rebuild_b6, Option.bind_some, nI_leE, nI_ltE, nI_eqE, nI_1, nI_add, rdI_n, rdL_n, wrI_n, wrL_n, has6b, has9b, bI_0, bI_1, nI_m1, nI_lt0, nI_le0, nI_0le, nI_eq0, leF, leT, ltF, ltT, eqF]) (by omega)
  unfold mX2_rebuild
  rw [e1]
  simp only [Option.bind_some]
  rw [e2]
  simp only [Option.bind_some]
  refine Exists.elim (lpI (body := fun s39 : Int32 × (Nat → Int32) × (Nat → Int32) × (Nat → Int32) × (Nat → Int32) × (Nat → Int32) × (Nat → Int32) × (Nat → Int64) × (Nat → Int32) × (Nat → Int32) × (Nat → Int32) × (Nat → Int32) =>
      mX2_rebuild_b39 F (nI N) xs ys (nI (N - 1)) keys' links' s39.1 s39.2.1 s39.2.2.1 s39.2.2.2.1 s39.2.2.2.2.1 s39.2.2.2.2.2.1 s39.2.2.2.2.2.2.1 s39.2.2.2.2.2.2.2.1 s39.2.2.2.2.2.2.2.2.1 s39.2.2.2.2.2.2.2.2.2.1 s39.2.2.2.2.2.2.2.2.2.2.1 s39.2.2.2.2.2.2.2.2.2.2.2) (F := F)
    (fun k (t : (Nat → Int32) × (Nat → Int32) × (Nat → Int32) × (Nat → Int32) × (Nat → Int32) × (Nat → Int32) × (Nat → Int64) × (Nat → Int32) × (Nat → Int32) × (Nat → Int32) × (Nat → Int32)) => (nI k, t))
    (fun k t => JOINS X Y (KK X Y N) k t.1 t.2.1 t.2.2.1 t.2.2.2.2.2.1 t.2.2.2.2.2.2.2.1 t.2.2.2.2.2.2.2.2.2.1 t.2.2.2.2.2.2.2.2.2.2 t.2.2.2.2.2.2.1 ∧
      (∀ i, i < k → t.2.2.2.1 i = oI (jaB (fP (KK X Y N)) (fQ (KK X Y N)) k i)) ∧ (∀ i, i < N → t.2.2.2.2.2.2.2.2.1 i = oI (paB (fP (KK X Y N)) (fQ (KK X Y N)) k i)) ∧ (∀ p, p < N → t.2.2.2.2.1 p = nI (ndB (fP (KK X Y N)) (fQ (KK X Y N)) k p)))
    0 (N - 1) (fun t => (nI (N - 1), t.1, t.2.1, t.2.2.1, t.2.2.2.1, keys', links', t.2.2.2.2.1, t.2.2.2.2.2.1, t.2.2.2.2.2.2.1, t.2.2.2.2.2.2.2.1, t.2.2.2.2.2.2.2.2.1, t.2.2.2.2.2.2.2.2.2.1, t.2.2.2.2.2.2.2.2.2.2))
    (aparts, fs, firsts, ja, t2.1, os, pairs, parts, t2.2, roots, seconds) (by omega) (s0 := ((0 : Int32), aparts, fs, firsts, ja, t2.1, os, pairs, parts, t2.2, roots, seconds)) rfl
    ⟨fun j hj => by omega, fun i hi => by omega, fun i hi => (g2 i hi).2, fun p hp => (g2 p hp).1⟩ (fun k t _ hk hI2 => ?_) (fun t hI2 => ?_) hk1) ?_
  rotate_right 1
  · intro t hh_; obtain ⟨e, g⟩ := hh_
    exact ⟨_, e, rfl, g.1, g.2.1, g.2.2.1⟩
  · obtain ⟨r, er, gr⟩ := makeJoin2 (F := F) (k := k) (K := KK X Y N) (keys := keys') hF hN hP hI (fun i hi => KK_isK hN (by omega)) (by omega) (g1 k hk) hI2.1 hI2.2.1 hI2.2.2.1 hI2.2.2.2
    refine ⟨r, ?_, gr⟩
    unfold mX2_rebuild_b39
    rw [if_neg (by rw [nI_leE (by omega) (by omega)]; omega), er]
    simp only [Option.bind_some, nI_1]
  · unfold mX2_rebuild_b39
    rw [if_pos (by rw [nI_leE (by omega) (by omega)]; omega)]
/-- the reference's rows hold the tree -/
def TR9 (X Y : Nat → Nat) (N : Nat) (aj ap first made one other second wide : Nat → Int32) : Prop :=
  (∀ j, j < N - 1 → first j = nI (fP (KK X Y N) j) ∧ second j = nI (fQ (KK X Y N) j) ∧ made j = nI (pmB (fP (KK X Y N)) (fQ (KK X Y N)) j) ∧
    one j = nI (ndB (fP (KK X Y N)) (fQ (KK X Y N)) j (fP (KK X Y N) j)) ∧ other j = nI (ndB (fP (KK X Y N)) (fQ (KK X Y N)) j (fQ (KK X Y N) j)) ∧ wide j = nI (KK X Y N j / 1024)) ∧
  (∀ i, i < N - 1 → aj i = oI (jaB (fP (KK X Y N)) (fQ (KK X Y N)) (N - 1) i)) ∧ (∀ i, i < N → ap i = oI (paB (fP (KK X Y N)) (fQ (KK X Y N)) (N - 1) i))
theorem nodes9 {F N k : Nat} {P Q : Nat → Nat} {nodes sets g24 : Nat → Int32} (hF : 1000 ≤ F) (hN : N ≤ 24) (hk : k < 24) (hm : pmB P Q k < 2 ^ 31) (hg : g24 k = nI (pmB P Q k)) (hn : ∀ p, p < N → nodes p = nI (ndB P Q k p)) (hs : ∀ p, p < N → sets p = nI (smB P Q k p)) :
    ∃ t : (Nat → Int32) × (Nat → Int32), loop (fun s143 : Int32 × (Nat → Int32) × (Nat → Int32) => mX9_laysSides_b143 F (nI N) (nI k) g24 s143.1 s143.2.1 s143.2.2) F ((0 : Int32), nodes, sets) = some t ∧
      ∀ p, p < N → t.1 p = nI (ndB P Q (k + 1) p) ∧ t.2 p = nI (smB P Q (k + 1) p) := by
  refine Exists.elim (lpI (body := fun s143 : Int32 × (Nat → Int32) × (Nat → Int32) => mX9_laysSides_b143 F (nI N) (nI k) g24 s143.1 s143.2.1 s143.2.2) (F := F)
    (fun i (t : (Nat → Int32) × (Nat → Int32)) => (nI i, t)) (fun i t => ∀ p, p < N → (t.1 p = if p < i then nI (ndB P Q (k + 1) p) else nI (ndB P Q k p)) ∧ (t.2 p = if p < i then nI (smB P Q (k + 1) p) else nI (smB P Q k p))) 0 N (fun t => t) (nodes, sets) (by omega) (s0 := ((0 : Int32), nodes, sets)) rfl
    (fun p hp => by rw [if_neg (by omega), if_neg (by omega)]; exact ⟨hn p hp, hs p hp⟩) (fun i t _ hi hI2 => ?_) (fun t hI2 => ?_) (by omega)) ?_
  rotate_right 1
  · intro t hh_; obtain ⟨e, g⟩ := hh_
    exact ⟨t, e, fun p hp => by have := g p hp; rw [if_pos hp, if_pos hp] at this; exact this⟩
  · cases hb : (pmB P Q k).testBit i with
    | true =>
      have e1 : ndB P Q (k + 1) i = 100 + k := if_pos hb
      have e4 : smB P Q (k + 1) i = pmB P Q k := if_pos hb
      refine ⟨(upd t.1 i (nI (100 + k)), upd t.2 i (nI (pmB P Q k))), by simp (disch := omega) [mX9_laysSides_b143, c100, Option.bind_some, nI_leE, nI_ltE, nI_eqE, nI_1, nI_add, rdI_n, rdL_n, wrI_n, wrL_n, has6b, has9b, bI_0, bI_1, nI_m1, nI_lt0, nI_le0, nI_0le, nI_eq0, leF, leT, ltF, ltT, eqF, hg, hb], fun p hp => ?_⟩
      by_cases e2 : p = i
      · subst e2; simp only [pk_us]; rw [if_pos (by omega), if_pos (by omega), e1, e4]; exact ⟨rfl, rfl⟩
      · simp only [pk_un e2]
        have := hI2 p hp
        by_cases e3 : p < i
        · rw [if_pos e3, if_pos e3] at this; rw [if_pos (by omega), if_pos (by omega)]; exact this
        · rw [if_neg e3, if_neg e3] at this; rw [if_neg (by omega), if_neg (by omega)]; exact this
    | false =>
      have e1 : ndB P Q (k + 1) i = ndB P Q k i := if_neg (by rw [hb]; decide)
      have e4 : smB P Q (k + 1) i = smB P Q k i := if_neg (fun h => by have h2 : (pmB P Q k).testBit i = true := h; rw [hb] at h2; cases h2)
      refine ⟨t, by simp (disch := omega) [mX9_laysSides_b143, Option.bind_some, nI_leE, nI_ltE, nI_eqE, nI_1, nI_add, rdI_n, rdL_n, wrI_n, wrL_n, has6b, has9b, bI_0, bI_1, nI_m1, nI_lt0, nI_le0, nI_0le, nI_eq0, leF, leT, ltF, ltT, eqF, hg, hb], fun p hp => ?_⟩
      have := hI2 p hp
      by_cases e2 : p = i
      · subst e2; rw [if_neg (by omega), if_neg (by omega)] at this; rw [if_pos (by omega), if_pos (by omega), e1, e4]; exact this
      · by_cases e3 : p < i
        · rw [if_pos e3, if_pos e3] at this; rw [if_pos (by omega), if_pos (by omega)]; exact this
        · rw [if_neg e3, if_neg e3] at this; rw [if_neg (by omega), if_neg (by omega)]; exact this
  · simp (disch := omega) [mX9_laysSides_b143, Option.bind_some, nI_leE, nI_ltE, nI_eqE, nI_1, nI_add, rdI_n, rdL_n, wrI_n, wrL_n, has6b, has9b, bI_0, bI_1, nI_m1, nI_lt0, nI_le0, nI_0le, nI_eq0, leF, leT, ltF, ltT, eqF]
theorem laysTree9 {F N : Nat} {X Y : Nat → Nat} {xs ys : Nat → Int32} (hF : 1000 ≤ F) (hN : N ≤ 24) (hP : PT N X Y xs ys) (hI : IN N X Y) (aj ap first made nodeOf one other second setOf wide : Nat → Int32) :
    ∃ r, mX9_laysTree F (nI N) aj ap first made nodeOf one other second setOf wide xs ys = some r ∧
      TR9 X Y N r.1 r.2.1 r.2.2.1 r.2.2.2.1 r.2.2.2.2.2.1 r.2.2.2.2.2.2.1 r.2.2.2.2.2.2.2.1 r.2.2.2.2.2.2.2.2.2 := by
  have j9 := joins9 (F := F) hN
  obtain ⟨t1, e1, g1⟩ := lays_b4 (F := F) hF hN hP hI first second
  have hK : ∀ j, j < N - 1 → isK X Y N (KK X Y N j) := fun j hj => KK_isK hN hj
  obtain ⟨t2, e2, g2⟩ := lays_b223 (F := F) (K := KK X Y N) hF hN hP hI hK g1 wide
  obtain ⟨t3, e3, g3⟩ := lpI (body := fun s2 : Int32 × (Nat → Int32) × (Nat → Int32) × (Nat → Int32) => mX9_laysSides_b2 F (nI N) s2.1 s2.2.1 s2.2.2.1 s2.2.2.2) (F := F)
    (fun k (t : (Nat → Int32) × (Nat → Int32) × (Nat → Int32)) => (nI k, t)) (fun k t => ∀ p, p < k → t.1 p = -1 ∧ t.2.1 p = nI p ∧ t.2.2 p = nI (2 ^ p)) 0 N (fun t => t) (ap, nodeOf, setOf) (by omega) (s0 := ((0 : Int32), ap, nodeOf, setOf)) rfl
    (fun p hp => by omega) (fun k t _ hk hI2 => by
      have nb : (1 : Int32) <<< (nI k &&& 31) = nI (2 ^ k) := nI_bit (by omega)
      refine ⟨(upd t.1 k (-1), upd t.2.1 k (nI k), upd t.2.2 k (nI (2 ^ k))), by simp (disch := omega) [mX9_laysSides_b2, Option.bind_some, nI_leE, nI_ltE, nI_eqE, nI_1, nI_add, rdI_n, rdL_n, wrI_n, wrL_n, has6b, has9b, bI_0, bI_1, nI_m1, nI_lt0, nI_le0, nI_0le, nI_eq0, leF, leT, ltF, ltT, eqF, nb], fun p hp => ?_⟩
      by_cases e : p = k
      · subst e; simp only [pk_us, and_self]
      · simp only [pk_un e]; exact hI2 p (by omega)) (fun t hI2 => by simp (disch := omega) [mX9_laysSides_b2, Option.bind_some, nI_leE, nI_ltE, nI_eqE, nI_1, nI_add, rdI_n, rdL_n, wrI_n, wrL_n, has6b, has9b, bI_0, bI_1, nI_m1, nI_lt0, nI_le0, nI_0le, nI_eq0, leF, leT, ltF, ltT, eqF]) (by omega)
  refine Exists.elim (lpI (body := fun s41 : Int32 × (Nat → Int32) × (Nat → Int32) × (Nat → Int32) × (Nat → Int32) × (Nat → Int32) × (Nat → Int32) × (Nat → Int32) =>
      mX9_laysSides_b41 F (nI N) t1.1 t1.2 s41.1 s41.2.1 s41.2.2.1 s41.2.2.2.1 s41.2.2.2.2.1 s41.2.2.2.2.2.1 s41.2.2.2.2.2.2.1 s41.2.2.2.2.2.2.2) (F := F)
    (fun k (t : (Nat → Int32) × (Nat → Int32) × (Nat → Int32) × (Nat → Int32) × (Nat → Int32) × (Nat → Int32) × (Nat → Int32)) => (nI k, t))
    (fun k t => (∀ i, i < k → t.1 i = oI (jaB (fP (KK X Y N)) (fQ (KK X Y N)) k i)) ∧ (∀ i, i < N → t.2.1 i = oI (paB (fP (KK X Y N)) (fQ (KK X Y N)) k i)) ∧
      (∀ j, j < k → t.2.2.1 j = nI (pmB (fP (KK X Y N)) (fQ (KK X Y N)) j) ∧ t.2.2.2.2.1 j = nI (ndB (fP (KK X Y N)) (fQ (KK X Y N)) j (fP (KK X Y N) j)) ∧ t.2.2.2.2.2.1 j = nI (ndB (fP (KK X Y N)) (fQ (KK X Y N)) j (fQ (KK X Y N) j))) ∧
      (∀ p, p < N → t.2.2.2.1 p = nI (ndB (fP (KK X Y N)) (fQ (KK X Y N)) k p) ∧ t.2.2.2.2.2.2 p = nI (smB (fP (KK X Y N)) (fQ (KK X Y N)) k p)))
    0 (N - 1) (fun t => t) (aj, t3.1, made, t3.2.1, one, other, t3.2.2) (by omega) (s0 := ((0 : Int32), aj, t3.1, made, t3.2.1, one, other, t3.2.2)) rfl
    ⟨fun i hi => by omega, fun i hi => (g3 i hi).1, fun j hj => by omega, fun p hp => (g3 p hp).2⟩ (fun k t _ hk hI2 => ?_) (fun t hI2 => ?_) (by omega)) ?_
  rotate_right 1
  · intro t hh_; obtain ⟨e, g⟩ := hh_
    refine ⟨(t.1, t.2.1, t1.1, t.2.2.1, t.2.2.2.1, t.2.2.2.2.1, t.2.2.2.2.2.1, t1.2, t.2.2.2.2.2.2, t2), ?_, fun j hj => ⟨(g1 j hj).1, (g1 j hj).2, (g.2.2.1 j hj).1, (g.2.2.1 j hj).2.1, (g.2.2.1 j hj).2.2, g2 j hj⟩, g.1, g.2.1⟩
    unfold mX9_laysTree mX9_laysSides
    rw [e1]
    simp only [Option.bind_some]
    rw [e2]
    simp only [Option.bind_some]
    rw [e3]
    simp only [Option.bind_some]
    rw [e]
    simp only [Option.bind_some]
  · have ⟨hpN, hqN⟩ := KK_lt (X := X) (Y := Y) hN hk
    have hPQ : ∀ i, i < k + 1 → fP (KK X Y N) i < N ∧ fQ (KK X Y N) i < N := fun i hi => KK_lt hN (by omega)
    have hpm := lt31 (pm_lt (j := k) hPQ) hN
    have hs1 := lt31 (sm_lt k (fun i hi => hPQ i (by omega)) _ hpN) hN
    have hs2 := lt31 (sm_lt k (fun i hi => hPQ i (by omega)) _ hqN) hN
    obtain ⟨j1, p1, e1, a1, b1⟩ := puts9 (F := F) (k := k) (nd_rng (P := fP (KK X Y N)) (Q := fQ (KK X Y N)) (j := k) (p := fP (KK X Y N) k) (by omega) (by omega)) (upd t.1 k (-1)) t.2.1
    obtain ⟨j2, p2, e2, a2, b2⟩ := puts9 (F := F) (k := k) (nd_rng (P := fP (KK X Y N)) (Q := fQ (KK X Y N)) (j := k) (p := fQ (KK X Y N) k) (by omega) (by omega)) j1 p1
    have ⟨st1, st2⟩ := above_step hN (by omega) hpN hqN hI2.1 hI2.2.1 a1 b1 a2 b2
    obtain ⟨ns, en, gn⟩ := nodes9 (F := F) (g24 := upd t.2.2.1 k (nI (pmB (fP (KK X Y N)) (fQ (KK X Y N)) k))) hF hN (by omega) hpm pk_us (fun p hp => (hI2.2.2.2 p hp).1) (fun p hp => (hI2.2.2.2 p hp).2)
    have f1 : t1.1 k = nI (fP (KK X Y N) k) := (g1 k hk).1
    have f2 : t1.2 k = nI (fQ (KK X Y N) k) := (g1 k hk).2
    have n1 := hI2.2.2.2 _ hpN
    have n2 := hI2.2.2.2 _ hqN
    have oo : nI (smB (fP (KK X Y N)) (fQ (KK X Y N)) k (fP (KK X Y N) k)) ||| nI (smB (fP (KK X Y N)) (fQ (KK X Y N)) k (fQ (KK X Y N) k)) = nI (pmB (fP (KK X Y N)) (fQ (KK X Y N)) k) := nI_or hs1 hs2
    refine ⟨(j2, p2, upd t.2.2.1 k (nI (pmB (fP (KK X Y N)) (fQ (KK X Y N)) k)), ns.1, upd t.2.2.2.2.1 k (nI (ndB (fP (KK X Y N)) (fQ (KK X Y N)) k (fP (KK X Y N) k))), upd t.2.2.2.2.2.1 k (nI (ndB (fP (KK X Y N)) (fQ (KK X Y N)) k (fQ (KK X Y N) k))), ns.2), ?_, st1, st2, fun j hj => ?_, gn⟩
    · unfold mX9_laysSides_b41
      simp (disch := omega) only [j9, Option.bind_some, nI_leE, leF, if_false, wrI_n, rdI_n, pk_us, f1, f2, n1.1, n1.2, n2.1, n2.2, e1, e2, oo, en, nI_1]
    · refine ⟨upd_all (g := fun j => nI (pmB (fP (KK X Y N)) (fQ (KK X Y N)) j)) (fun i hi => (hI2.2.2.1 i hi).1) rfl j hj, upd_all (g := fun j => nI (ndB (fP (KK X Y N)) (fQ (KK X Y N)) j (fP (KK X Y N) j))) (fun i hi => (hI2.2.2.1 i hi).2.1) rfl j hj,
        upd_all (g := fun j => nI (ndB (fP (KK X Y N)) (fQ (KK X Y N)) j (fQ (KK X Y N) j))) (fun i hi => (hI2.2.2.1 i hi).2.2) rfl j hj⟩
  · unfold mX9_laysSides_b41
    simp (disch := omega) only [j9, Option.bind_some, nI_leE, leT, if_true]
