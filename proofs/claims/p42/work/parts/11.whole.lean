/-! ===== out of whole's pure parts ===== -/
/-- both puts of a join, on rows that are right before -/
theorem above_step {P Q : Nat → Nat} {k N : Nat} (hN : N ≤ 24) (hk : k < 24) (ha : P k < N) (hb : Q k < N) {ja pa ja1 pa1 ja2 pa2 : Nat → Int32}
    (h1 : ∀ i, i < k → ja i = oI (jaB P Q k i)) (h2 : ∀ i, i < N → pa i = oI (paB P Q k i))
    (g1 : ∀ i, ja1 i = abJ k (upd ja k (-1)) (ndB P Q k (P k)) i) (g2 : ∀ i, i < 24 → pa1 i = abP k pa (ndB P Q k (P k)) i)
    (g3 : ∀ i, ja2 i = abJ k ja1 (ndB P Q k (Q k)) i) (g4 : ∀ i, i < 24 → pa2 i = abP k pa1 (ndB P Q k (Q k)) i) :
    (∀ i, i < k + 1 → ja2 i = oI (jaB P Q (k + 1) i)) ∧ (∀ i, i < N → pa2 i = oI (paB P Q (k + 1) i)) := by
  refine ⟨fun i hi => ?_, fun i hi => ?_⟩
  · rw [g3]
    unfold abJ
    simp only [jaB]
    by_cases e2 : ndB P Q k (Q k) = 100 + i
    · rw [if_pos e2, if_pos (Or.inr e2)]; rfl
    · rw [if_neg e2, g1]
      unfold abJ
      by_cases e1 : ndB P Q k (P k) = 100 + i
      · rw [if_pos e1, if_pos (Or.inl e1)]; rfl
      · rw [if_neg e1, if_neg (fun h => h.elim e1 e2)]
        by_cases e : i = k
        · subst e; rw [pk_us, if_pos rfl]; rfl
        · rw [pk_un e, if_neg e, h1 i (by omega)]
  · rw [g4 i (by omega)]
    unfold abP
    simp only [paB]
    by_cases e2 : ndB P Q k (Q k) = i
    · rw [if_pos e2, if_pos (Or.inr e2)]; rfl
    · rw [if_neg e2, g2 i (by omega)]
      unfold abP
      by_cases e1 : ndB P Q k (P k) = i
      · rw [if_pos e1, if_pos (Or.inl e1)]; rfl
      · rw [if_neg e1, if_neg (fun h => h.elim e1 e2), h2 i hi]
theorem place2 {F N p : Nat} {X Y : Nat → Nat} {xs ys : Nat → Int32} (hN : N ≤ 24) (hP : PT N X Y xs ys) (hI : IN N X Y) (hp : p < N) : mX2_placeOf F (nI p) xs ys = some (lN (plB X Y p)) := by
  have ⟨p1, p2⟩ := hP p hp
  have ⟨a1, a2⟩ := hI p hp
  have e10 : lN (X p) <<< (((10 : Int32)).toInt64 &&& 63) = lN (X p * 2 ^ 10) := lN_shl _ 10 s64_10 (by omega)
  simp (disch := omega) only [mX2_placeOf, rdI_n, Option.bind_some, p1, p2, nI_l, e10]
  rw [lN_or (by omega) (by omega), or_add (by omega)]
  rfl
theorem pl_lt {N p : Nat} {X Y : Nat → Nat} (hI : IN N X Y) (hp : p < N) : plB X Y p < 1048576 := by
  have ⟨a1, a2⟩ := hI p hp
  unfold plB
  omega
def pairB (X Y K : Nat → Nat) (j : Nat) : Nat := plB X Y (fP K j) * 1048576 + plB X Y (fQ K j)
/-- what the rows of joins hold, for the first k joins -/
def JOINS (X Y K : Nat → Nat) (k : Nat) (aparts fs firsts os parts roots seconds : Nat → Int32) (pairs : Nat → Int64) : Prop :=
  ∀ j, j < k → aparts j = nI (K j / 1024) ∧ fs j = nI (ndB (fP K) (fQ K) j (fP K j)) ∧ firsts j = nI (fP K j) ∧ os j = nI (ndB (fP K) (fQ K) j (fQ K j)) ∧ parts j = nI (pmB (fP K) (fQ K) j) ∧
    roots j = nI (rt (K j / 1024)) ∧ seconds j = nI (fQ K j) ∧ pairs j = lN (pairB X Y K j)
theorem key_p {k : Nat} (h : k < 2 ^ 63) : ((lN k >>> (((5 : Int32)).toInt64 &&& 63)) &&& (31 : Int64)).toInt32 = nI (k / 32 % 32) := by
  have h2 : k / 2 ^ 5 ≤ k := Nat.div_le_self _ _
  rw [lN_shr h _ 5 s64_5, show (31 : Int64) = lN 31 from rfl, lN_and (by omega) (by omega), lN_i, show (31 : Nat) = 2 ^ 5 - 1 from rfl, Nat.and_two_pow_sub_one_eq_mod]
theorem key_q {k : Nat} (h : k < 2 ^ 63) : (lN k &&& (31 : Int64)).toInt32 = nI (k % 32) := by
  rw [show (31 : Int64) = lN 31 from rfl, lN_and h (by omega), lN_i, show (31 : Nat) = 2 ^ 5 - 1 from rfl, Nat.and_two_pow_sub_one_eq_mod]
theorem key_a {k : Nat} (h : k < 2 ^ 63) : (lN k >>> (((10 : Int32)).toInt64 &&& 63)).toInt32 = nI (k / 1024) := by
  rw [lN_shr h _ 10 s64_10, lN_i]
theorem upd_all {f : Nat → Int32} {g : Nat → Int32} {k : Nat} {v : Int32} (h : ∀ j, j < k → f j = g j) (hv : v = g k) : ∀ j, j < k + 1 → upd f k v j = g j := by
  intro j hj
  by_cases e : j = k
  · subst e; rw [pk_us, hv]
  · rw [pk_un e]; exact h j (by omega)
theorem updL_all {f : Nat → Int64} {g : Nat → Int64} {k : Nat} {v : Int64} (h : ∀ j, j < k → f j = g j) (hv : v = g k) : ∀ j, j < k + 1 → vp_updL f k v j = g j := by
  intro j hj
  by_cases e : j = k
  · subst e; rw [pk_uLs, hv]
  · rw [pk_uLn e]; exact h j (by omega)
theorem nodes2 {F N k : Nat} {P Q : Nat → Nat} {nodes g25 : Nat → Int32} (hF : 1000 ≤ F) (hN : N ≤ 24) (hk : k < 24) (hm : pmB P Q k < 2 ^ 31) (hg : g25 k = nI (pmB P Q k)) (hn : ∀ p, p < N → nodes p = nI (ndB P Q k p))
    (g8 g11 g12 g13 : Nat → Int32) (g16 : Nat → Int64) (g18 g20 r1 r2 : Nat → Int32) :
    ∃ nodes', loop (fun s197 : Int32 × (Nat → Int32) => mX2_makeJoin_b197 F (nI k) (nI N) g8 g11 g12 g13 g16 g18 g20 g25 r1 r2 s197.1 s197.2) F ((0 : Int32), nodes) = some (g8, g18, g12, r1, nodes', g20, g16, g25, r2, g11, g13) ∧
      ∀ p, p < N → nodes' p = nI (ndB P Q (k + 1) p) := by
  refine Exists.elim (lpI (body := fun s197 : Int32 × (Nat → Int32) => mX2_makeJoin_b197 F (nI k) (nI N) g8 g11 g12 g13 g16 g18 g20 g25 r1 r2 s197.1 s197.2) (F := F)
    (fun i (t : Nat → Int32) => (nI i, t)) (fun i t => ∀ p, p < N → t p = if p < i then nI (ndB P Q (k + 1) p) else nI (ndB P Q k p)) 0 N (fun t => (g8, g18, g12, r1, t, g20, g16, g25, r2, g11, g13)) nodes (by omega) (s0 := ((0 : Int32), nodes)) rfl
    (fun p hp => by rw [if_neg (by omega)]; exact hn p hp) (fun i t _ hi hI2 => ?_) (fun t hI2 => ?_) (by omega)) ?_
  rotate_right 1
  · intro t hh_; obtain ⟨e, g⟩ := hh_
    exact ⟨t, e, fun p hp => by have := g p hp; rw [if_pos hp] at this; exact this⟩
  · cases hb : (pmB P Q k).testBit i with
    | true =>
      have e1 : ndB P Q (k + 1) i = 100 + k := if_pos hb
      refine ⟨upd t i (nI (100 + k)), by simp (disch := omega) [mX2_makeJoin_b197, c100, Option.bind_some, nI_leE, nI_ltE, nI_eqE, nI_1, nI_add, rdI_n, rdL_n, wrI_n, wrL_n, has6b, bI_0, bI_1, nI_m1, nI_lt0, nI_le0, nI_0le, nI_eq0, leF, leT, ltF, ltT, eqF, hg, hb], fun p hp => ?_⟩
      by_cases e2 : p = i
      · subst e2; rw [pk_us, if_pos (by omega), e1]
      · rw [pk_un e2, hI2 p hp]
        by_cases e3 : p < i
        · rw [if_pos e3, if_pos (by omega)]
        · rw [if_neg e3, if_neg (by omega)]
    | false =>
      have e1 : ndB P Q (k + 1) i = ndB P Q k i := if_neg (by rw [hb]; decide)
      refine ⟨t, by simp (disch := omega) [mX2_makeJoin_b197, Option.bind_some, nI_leE, nI_ltE, nI_eqE, nI_1, nI_add, rdI_n, rdL_n, wrI_n, wrL_n, has6b, bI_0, bI_1, nI_m1, nI_lt0, nI_le0, nI_0le, nI_eq0, leF, leT, ltF, ltT, eqF, hg, hb], fun p hp => ?_⟩
      rw [hI2 p hp]
      by_cases e2 : p = i
      · subst e2; rw [if_neg (by omega), if_pos (by omega), e1]
      · by_cases e3 : p < i
        · rw [if_pos e3, if_pos (by omega)]
        · rw [if_neg e3, if_neg (by omega)]
  · simp (disch := omega) [mX2_makeJoin_b197, Option.bind_some, nI_leE, nI_ltE, nI_eqE, nI_1, nI_add, rdI_n, rdL_n, wrI_n, wrL_n, has6b, bI_0, bI_1, nI_m1, nI_lt0, nI_le0, nI_0le, nI_eq0, leF, leT, ltF, ltT, eqF]
theorem pair_l {a b : Nat} (ha : a < 1048576) (hb : b < 1048576) : (lN a <<< (((20 : Int32)).toInt64 &&& 63)) ||| lN b = lN (a * 1048576 + b) := by
  rw [lN_shl _ 20 s64_20 (by omega), lN_or (by omega) (by omega), or_add (by omega)]
theorem makeJoin2 {F N k : Nat} {X Y K : Nat → Nat} {xs ys aparts fs firsts ja nodes os parts pa roots seconds : Nat → Int32} {keys pairs : Nat → Int64} (hF : 1000 ≤ F) (hN : N ≤ 24) (hP : PT N X Y xs ys) (hI : IN N X Y)
    (hK : ∀ i, i < k + 1 → isK X Y N (K i)) (hk : k + 1 < N) (hkey : keys k = lN (K k)) (hJ : JOINS X Y K k aparts fs firsts os parts roots seconds pairs)
    (h1 : ∀ i, i < k → ja i = oI (jaB (fP K) (fQ K) k i)) (h2 : ∀ i, i < N → pa i = oI (paB (fP K) (fQ K) k i)) (h3 : ∀ p, p < N → nodes p = nI (ndB (fP K) (fQ K) k p)) :
    ∃ r, mX2_makeJoin F (nI k) (nI N) aparts fs firsts ja keys nodes os pairs parts xs ys pa roots seconds = some r ∧
      JOINS X Y K (k + 1) r.1 r.2.1 r.2.2.1 r.2.2.2.2.2.1 r.2.2.2.2.2.2.2.1 r.2.2.2.2.2.2.2.2.2.1 r.2.2.2.2.2.2.2.2.2.2 r.2.2.2.2.2.2.1 ∧
      (∀ i, i < k + 1 → r.2.2.2.1 i = oI (jaB (fP K) (fQ K) (k + 1) i)) ∧ (∀ i, i < N → r.2.2.2.2.2.2.2.2.1 i = oI (paB (fP K) (fQ K) (k + 1) i)) ∧ (∀ p, p < N → r.2.2.2.2.1 p = nI (ndB (fP K) (fQ K) (k + 1) p)) := by
  have ⟨k1, k2, k3, k4⟩ := isK_spec hN (hK k (by omega))
  have kl := isK_lt hN hI (hK k (by omega))
  have hpN : fP K k < N := by unfold fP; omega
  have hqN : fQ K k < N := k2
  have hPQ : ∀ i, i < k + 1 → fP K i < N ∧ fQ K i < N := fun i hi => by
    have ⟨a1, a2, _, _⟩ := isK_spec hN (hK i hi)
    unfold fP fQ
    omega
  have hpm := lt31 (pm_lt (j := k) hPQ) hN
  have hs1 := lt31 (sm_lt k (fun i hi => hPQ i (by omega)) _ hpN) hN
  have hs2 := lt31 (sm_lt k (fun i hi => hPQ i (by omega)) _ hqN) hN
  obtain ⟨j1, p1, e1, a1, b1⟩ := putBelow2 (F := F) (k := k) (nd_rng (P := fP K) (Q := fQ K) (j := k) (p := fP K k) (by omega) (by omega)) (upd ja k (-1)) pa
  obtain ⟨j2, p2, e2, a2, b2⟩ := putBelow2 (F := F) (k := k) (nd_rng (P := fP K) (Q := fQ K) (j := k) (p := fQ K k) (by omega) (by omega)) j1 p1
  have ⟨st1, st2⟩ := above_step hN (by omega) hpN hqN h1 h2 a1 b1 a2 b2
  have ra : K k / 1024 < 4194304 := by omega
  obtain ⟨nodes', en, gn⟩ := nodes2 (F := F) (g25 := upd parts k (nI (pmB (fP K) (fQ K) k))) hF hN (by omega) hpm (pk_us) h3
    (upd aparts k (nI (K k / 1024))) (upd roots k (nI (rt (K k / 1024)))) (upd firsts k (nI (fP K k))) (upd seconds k (nI (fQ K k)))
    (vp_updL pairs k (lN (pairB X Y K k))) (upd fs k (nI (ndB (fP K) (fQ K) k (fP K k)))) (upd os k (nI (ndB (fP K) (fQ K) k (fQ K k)))) j2 p2
  refine ⟨(upd aparts k (nI (K k / 1024)), upd fs k (nI (ndB (fP K) (fQ K) k (fP K k))), upd firsts k (nI (fP K k)), j2, nodes', upd os k (nI (ndB (fP K) (fQ K) k (fQ K k))), vp_updL pairs k (lN (pairB X Y K k)), upd parts k (nI (pmB (fP K) (fQ K) k)), p2, upd roots k (nI (rt (K k / 1024))), upd seconds k (nI (fQ K k))), ?_, ?_, st1, st2, gn⟩
  · have kp : ((lN (K k) >>> (((5 : Int32)).toInt64 &&& 63)) &&& (31 : Int64)).toInt32 = nI (fP K k) := key_p (by omega)
    have kq : (lN (K k) &&& (31 : Int64)).toInt32 = nI (fQ K k) := key_q (by omega)
    have ka := key_a (k := K k) (by omega)
    have so1 := setOf2 (F := F) (N := N) (j := k) (p := fP K k) (P := fP K) (Q := fQ K) (parts := parts) hN (by omega) hpN (fun i hi => (hJ i hi).2.2.2.2.1)
    have so2 := setOf2 (F := F) (N := N) (j := k) (p := fQ K k) (P := fP K) (Q := fQ K) (parts := parts) hN (by omega) hqN (fun i hi => (hJ i hi).2.2.2.2.1)
    have pl1 := place2 (F := F) hN hP hI hpN
    have pl2 := place2 (F := F) hN hP hI hqN
    have pq := pair_l (pl_lt (Y := Y) hI hpN) (pl_lt (Y := Y) hI hqN)
    have n1 := h3 _ hpN
    have n2 := h3 _ hqN
    have ro := root6 (F := F) hF ra
    have oo : nI (smB (fP K) (fQ K) k (fP K k)) ||| nI (smB (fP K) (fQ K) k (fQ K k)) = nI (pmB (fP K) (fQ K) k) := nI_or hs1 hs2
    have pe : pairB X Y K k = plB X Y (fP K k) * 1048576 + plB X Y (fQ K k) := rfl
    rw [← pe] at pq
    unfold mX2_makeJoin
    simp (disch := omega) only [rdL_n, hkey, Option.bind_some, kp, kq, ka, nI_leE, nI_ltE, leF, ltT, if_false, if_true, wrI_n, wrL_n, rdI_n, pk_us, ro, pl1, pl2, pq, n1, n2, so1, so2, oo, e1, e2]
    exact en
  · intro j hj
    refine ⟨upd_all (g := fun j => nI (K j / 1024)) (fun i hi => (hJ i hi).1) rfl j hj, upd_all (g := fun j => nI (ndB (fP K) (fQ K) j (fP K j))) (fun i hi => (hJ i hi).2.1) rfl j hj,
      upd_all (g := fun j => nI (fP K j)) (fun i hi => (hJ i hi).2.2.1) rfl j hj, upd_all (g := fun j => nI (ndB (fP K) (fQ K) j (fQ K j))) (fun i hi => (hJ i hi).2.2.2.1) rfl j hj,
      upd_all (g := fun j => nI (pmB (fP K) (fQ K) j)) (fun i hi => (hJ i hi).2.2.2.2.1) rfl j hj, upd_all (g := fun j => nI (rt (K j / 1024))) (fun i hi => (hJ i hi).2.2.2.2.2.1) rfl j hj,
      upd_all (g := fun j => nI (fQ K j)) (fun i hi => (hJ i hi).2.2.2.2.2.2.1) rfl j hj, updL_all (g := fun j => lN (pairB X Y K j)) (fun i hi => (hJ i hi).2.2.2.2.2.2.2) rfl j hj⟩
/-- the keys of the tree of N points -/
def KK (X Y : Nat → Nat) (N : Nat) : Nat → Nat := KS X Y N (N - 1)
theorem KK_isK {X Y : Nat → Nat} {N : Nat} (hN : N ≤ 24) {j : Nat} (hj : j < N - 1) : isK X Y N (KK X Y N j) := KS_isK hN (N - 1) (by omega) j hj
theorem KK_PQ {X Y : Nat → Nat} {N : Nat} (hN : N ≤ 24) {j : Nat} (hj : j < N - 1) : fP (KK X Y N) j < fQ (KK X Y N) j ∧ fQ (KK X Y N) j < N := by
  have ⟨a, b, _, _⟩ := isK_spec hN (KK_isK (X := X) (Y := Y) hN hj)
  exact ⟨a, b⟩
theorem KK_lt {X Y : Nat → Nat} {N : Nat} (hN : N ≤ 24) {i : Nat} (hi : i < N - 1) : fP (KK X Y N) i < N ∧ fQ (KK X Y N) i < N := by
  have := KK_PQ (X := X) (Y := Y) hN hi
  omega
/-- the class's rows hold the tree -/
def TR2 (X Y : Nat → Nat) (N : Nat) (aparts fs firsts ja os parts pa roots seconds : Nat → Int32) (pairs : Nat → Int64) : Prop :=
  JOINS X Y (KK X Y N) (N - 1) aparts fs firsts os parts roots seconds pairs ∧ (∀ i, i < N - 1 → ja i = oI (jaB (fP (KK X Y N)) (fQ (KK X Y N)) (N - 1) i)) ∧ (∀ i, i < N → pa i = oI (paB (fP (KK X Y N)) (fQ (KK X Y N)) (N - 1) i))
theorem rebuild2 {F N : Nat} {X Y : Nat → Nat} {xs ys : Nat → Int32} (hF : 1000 ≤ F) (hN : N ≤ 24) (hP : PT N X Y xs ys) (hI : IN N X Y) (c : Int32) (aparts fs firsts ja : Nat → Int32) (keys links : Nat → Int64) (nodes os : Nat → Int32) (pairs : Nat → Int64) (parts pa roots seconds : Nat → Int32) :
    ∃ r, mX2_rebuild F c (nI N) aparts fs firsts ja keys links nodes os pairs parts xs ys pa roots seconds = some r ∧ r.1 = nI (N - 1) ∧
      TR2 X Y N r.2.1 r.2.2.1 r.2.2.2.1 r.2.2.2.2.1 r.2.2.2.2.2.2.2.2.1 r.2.2.2.2.2.2.2.2.2.2.1 r.2.2.2.2.2.2.2.2.2.2.2.1 r.2.2.2.2.2.2.2.2.2.2.2.2.1 r.2.2.2.2.2.2.2.2.2.2.2.2.2 r.2.2.2.2.2.2.2.2.2.1 := by
  obtain ⟨keys', links', e1, g1⟩ := growTree2 (F := F) hF hN hP hI c keys links
  have hk1 : N - 1 < F := by omega
  obtain ⟨t2, e2, g2⟩ := lpI (body := fun s6 : Int32 × (Nat → Int32) × (Nat → Int32) => mX2_rebuild_b6 F (nI N) s6.1 s6.2.1 s6.2.2) (F := F)
    (fun k (t : (Nat → Int32) × (Nat → Int32)) => (nI k, t)) (fun k t => ∀ p, p < k → t.1 p = nI p ∧ t.2 p = -1) 0 N (fun t => t) (nodes, pa) (by omega) (s0 := ((0 : Int32), nodes, pa)) rfl
    (fun p hp => by omega) (fun k t _ hk hI2 => by
      refine ⟨(upd t.1 k (nI k), upd t.2 k (-1)), by simp (disch := omega) [mX2_rebuild_b6, Option.bind_some, nI_leE, nI_ltE, nI_eqE, nI_1, nI_add, rdI_n, rdL_n, wrI_n, wrL_n, has6b, bI_0, bI_1, nI_m1, nI_lt0, nI_le0, nI_0le, nI_eq0, leF, leT, ltF, ltT, eqF], fun p hp => ?_⟩
      by_cases e : p = k
      · subst e; simp only [pk_us, and_self]
      · simp only [pk_un e]; exact hI2 p (by omega)) (fun t hI2 => by simp (disch := omega) [mX2_rebuild_b6, Option.bind_some, nI_leE, nI_ltE, nI_eqE, nI_1, nI_add, rdI_n, rdL_n, wrI_n, wrL_n, has6b, bI_0, bI_1, nI_m1, nI_lt0, nI_le0, nI_0le, nI_eq0, leF, leT, ltF, ltT, eqF]) (by omega)
  unfold mX2_rebuild
  rw [e1]
  simp only [Option.bind_some]
  rw [e2]
  simp only [Option.bind_some]
  refine Exists.elim (lpI (body := fun s39 : Int32 × (Nat → Int32) × (Nat → Int32) × (Nat → Int32) × (Nat → Int32) × (Nat → Int32) × (Nat → Int32) × (Nat → Int64) × (Nat → Int32) × (Nat → Int32) × (Nat → Int32) × (Nat → Int32) =>
      mX2_rebuild_b39 F (nI N) xs ys (nI (N - 1)) keys' links' s39.1 s39.2.1 s39.2.2.1 s39.2.2.2.1 s39.2.2.2.2.1 s39.2.2.2.2.2.1 s39.2.2.2.2.2.2.1 s39.2.2.2.2.2.2.2.1 s39.2.2.2.2.2.2.2.2.1 s39.2.2.2.2.2.2.2.2.2.1 s39.2.2.2.2.2.2.2.2.2.2.1 s39.2.2.2.2.2.2.2.2.2.2.2) (F := F)
    (fun k (t : (Nat → Int32) × (Nat → Int32) × (Nat → Int32) × (Nat → Int32) × (Nat → Int32) × (Nat → Int32) × (Nat → Int64) × (Nat → Int32) × (Nat → Int32) × (Nat → Int32) × (Nat → Int32)) => (nI k, t))
    (fun k t => JOINS X Y (KK X Y N) k t.1 t.2.1 t.2.2.1 t.2.2.2.2.2.1 t.2.2.2.2.2.2.2.1 t.2.2.2.2.2.2.2.2.2.1 t.2.2.2.2.2.2.2.2.2.2 t.2.2.2.2.2.2.1 ∧
      (∀ i, i < k → t.2.2.2.1 i = oI (jaB (fP (KK X Y N)) (fQ (KK X Y N)) k i)) ∧ (∀ i, i < N → t.2.2.2.2.2.2.2.2.1 i = oI (paB (fP (KK X Y N)) (fQ (KK X Y N)) k i)) ∧ (∀ p, p < N → t.2.2.2.2.1 p = nI (ndB (fP (KK X Y N)) (fQ (KK X Y N)) k p)))
    0 (N - 1) (fun t => (nI (N - 1), t.1, t.2.1, t.2.2.1, t.2.2.2.1, keys', links', t.2.2.2.2.1, t.2.2.2.2.2.1, t.2.2.2.2.2.2.1, t.2.2.2.2.2.2.2.1, t.2.2.2.2.2.2.2.2.1, t.2.2.2.2.2.2.2.2.2.1, t.2.2.2.2.2.2.2.2.2.2))
    (aparts, fs, firsts, ja, t2.1, os, pairs, parts, t2.2, roots, seconds) (by omega) (s0 := ((0 : Int32), aparts, fs, firsts, ja, t2.1, os, pairs, parts, t2.2, roots, seconds)) rfl
    ⟨fun j hj => by omega, fun i hi => by omega, fun i hi => (g2 i hi).2, fun p hp => (g2 p hp).1⟩ (fun k t _ hk hI2 => ?_) (fun t hI2 => ?_) hk1) ?_
  rotate_right 1
  · intro t hh_; obtain ⟨e, g⟩ := hh_
    exact ⟨_, e, rfl, g.1, g.2.1, g.2.2.1⟩
  · obtain ⟨r, er, gr⟩ := makeJoin2 (F := F) (k := k) (K := KK X Y N) (keys := keys') hF hN hP hI (fun i hi => KK_isK hN (by omega)) (by omega) (g1 k hk) hI2.1 hI2.2.1 hI2.2.2.1 hI2.2.2.2
    refine ⟨r, ?_, gr⟩
    unfold mX2_rebuild_b39
    rw [if_neg (by rw [nI_leE (by omega) (by omega)]; omega), er]
    simp only [Option.bind_some, nI_1]
  · unfold mX2_rebuild_b39
    rw [if_pos (by rw [nI_leE (by omega) (by omega)]; omega)]
theorem or_bit (a b i : Nat) : (a ||| b).testBit i = (a.testBit i || b.testBit i) := Nat.testBit_or a b i
/-- what the rows of parts keep -/
def PART (N : Nat) (s : Nat → Nat) : Prop := ∀ p, p < N → (s p).testBit p = true ∧ s p < 2 ^ N ∧ ∀ q, q < N → (s p).testBit q = true → s q = s p
theorem sm_part {P Q : Nat → Nat} {N : Nat} : ∀ j, (∀ i, i < j → P i < N ∧ Q i < N) → PART N (smB P Q j)
  | 0, _ => by
    intro p hp
    refine ⟨by simp [smB, Nat.testBit_two_pow], Nat.pow_lt_pow_right (by omega) hp, fun q hq h => ?_⟩
    simp only [smB, Nat.testBit_two_pow] at h ⊢
    simp at h
    rw [h]
  | j + 1, h => by
    have ih := sm_part j (fun i hi => h i (by omega))
    have ⟨ha, hb⟩ := h j (by omega)
    have ⟨a1, a2, a3⟩ := ih (P j) ha
    have ⟨b1, b2, b3⟩ := ih (Q j) hb
    intro p hp
    have ⟨p1, p2, p3⟩ := ih p hp
    by_cases hm : (pmB P Q j).testBit p = true
    · have e : smB P Q (j + 1) p = pmB P Q j := if_pos hm
      rw [e]
      refine ⟨hm, Nat.or_lt_two_pow a2 b2, fun q hq h2 => if_pos h2⟩
    · have e : smB P Q (j + 1) p = smB P Q j p := if_neg hm
      rw [e]
      refine ⟨p1, p2, fun q hq h2 => ?_⟩
      have e2 := p3 q hq h2
      have hq2 : ¬ (pmB P Q j).testBit q = true := by
        intro g
        apply hm
        unfold pmB at g ⊢
        rw [or_bit] at g ⊢
        rcases Bool.or_eq_true _ _ |>.mp g with g | g
        · have := a3 q hq g
          rw [← this, e2, p1]; rfl
        · have := b3 q hq g
          rw [← this, e2, p1]; simp
      show smB P Q (j + 1) q = _
      rw [← e2]
      exact if_neg hq2
theorem part_symm {N : Nat} {s : Nat → Nat} (h : PART N s) {p q : Nat} (hp : p < N) (hq : q < N) (g : (s p).testBit q = true) : (s q).testBit p = true := by
  rw [(h p hp).2.2 q hq g]
  exact (h p hp).1
theorem part_eq {N : Nat} {s : Nat → Nat} (h : PART N s) {p q r : Nat} (hp : p < N) (hq : q < N) (hr : r < N) (g : (s p).testBit r = true) (g2 : (s q).testBit r = true) : s p = s q := by
  rw [← (h p hp).2.2 r hr g, ← (h q hq).2.2 r hr g2]
theorem pm_a {P Q : Nat → Nat} {N j : Nat} (h : PART N (smB P Q j)) (ha : P j < N) : (pmB P Q j).testBit (P j) = true := by
  unfold pmB; rw [or_bit, (h _ ha).1]; rfl
theorem pm_b {P Q : Nat → Nat} {N j : Nat} (h : PART N (smB P Q j)) (hb : Q j < N) : (pmB P Q j).testBit (Q j) = true := by
  unfold pmB; rw [or_bit, (h _ hb).1]; simp
theorem sm_step {P Q : Nat → Nat} {N j p q : Nat} (h : PART N (smB P Q j)) (ha : P j < N) (hb : Q j < N) (hp : p < N) (g : (smB P Q j p).testBit q = true) : (smB P Q (j + 1) p).testBit q = true := by
  by_cases hm : (pmB P Q j).testBit p = true
  · have e : smB P Q (j + 1) p = pmB P Q j := if_pos hm
    rw [e]
    unfold pmB at hm ⊢
    rw [or_bit] at hm ⊢
    rcases Bool.or_eq_true _ _ |>.mp hm with g2 | g2
    · have := (h _ ha).2.2 p hp g2
      rw [← this, g]; rfl
    · have := (h _ hb).2.2 p hp g2
      rw [← this, g]; simp
  · have e : smB P Q (j + 1) p = smB P Q j p := if_neg hm
    rw [e]; exact g
theorem sm_mono {P Q : Nat → Nat} {N p q : Nat} (hp : p < N) : ∀ j k, j ≤ k → (∀ i, i < k → P i < N ∧ Q i < N) → (smB P Q j p).testBit q = true → (smB P Q k p).testBit q = true
  | j, 0, h, _, g => by rw [show j = 0 by omega] at g; exact g
  | j, k + 1, h, hN, g => by
    rcases Nat.eq_or_lt_of_le h with e | e
    · rw [← e]; exact g
    · exact sm_step (sm_part k (fun i hi => hN i (by omega))) (hN k (by omega)).1 (hN k (by omega)).2 hp (sm_mono hp j k (by omega) (fun i hi => hN i (by omega)) g)
theorem pm_sub {P Q : Nat → Nat} {N j p : Nat} (hm : (pmB P Q j).testBit p = true) : smB P Q (j + 1) p = pmB P Q j := if_pos hm
/-- two are in one part by the first k joins, as soon as one of these made a part of both -/
theorem sm_pm {P Q : Nat → Nat} {N j k p q : Nat} (hp : p < N) (hjk : j < k) (hN : ∀ i, i < k → P i < N ∧ Q i < N) (g1 : (pmB P Q j).testBit p = true) (g2 : (pmB P Q j).testBit q = true) : (smB P Q k p).testBit q = true :=
  sm_mono hp (j + 1) k (by omega) hN (by rw [pm_sub (N := N) g1]; exact g2)
/-- the part of a point: the last made one that it is in -/
theorem sm_last {P Q : Nat → Nat} {p : Nat} : ∀ k, smB P Q k p = match lstB (fun j => (pmB P Q j).testBit p) k with | some j => pmB P Q j | none => 2 ^ p
  | 0 => rfl
  | k + 1 => by
    by_cases h : (pmB P Q k).testBit p = true
    · have e : lstB (fun j => (pmB P Q j).testBit p) (k + 1) = some k := if_pos h
      rw [e]
      exact if_pos h
    · have e : lstB (fun j => (pmB P Q j).testBit p) (k + 1) = lstB (fun j => (pmB P Q j).testBit p) k := if_neg h
      rw [e, ← sm_last k]
      exact if_neg h
theorem sm_in {P Q : Nat → Nat} {p q k : Nat} (hne : p ≠ q) (g : (smB P Q k p).testBit q = true) : ∃ j, j < k ∧ (pmB P Q j).testBit p = true ∧ (pmB P Q j).testBit q = true := by
  rw [sm_last] at g
  cases h : lstB (fun j => (pmB P Q j).testBit p) k with
  | none =>
    rw [h] at g
    simp only [Nat.testBit_two_pow] at g
    simp at g
    exact absurd g hne
  | some j =>
    rw [h] at g
    have := lstB_some.mp h
    exact ⟨j, this.1, this.2.1, g⟩
/-- heads of parts: their least ones -/
def hdB (s : Nat → Nat) (p : Nat) : Bool := decide (lo (s p) = p)
theorem lo_part {N : Nat} {s : Nat → Nat} (hN : N ≤ 24) (h : PART N s) {p : Nat} (hp : p < N) : lo (s p) < N ∧ (s p).testBit (lo (s p)) = true ∧ s (lo (s p)) = s p ∧ (∀ i, i < lo (s p) → (s p).testBit i = false) ∧ lo (s p) ≤ p := by
  have ⟨h1, h2, h3⟩ := h p hp
  have h4 : s p < 2 ^ 24 := Nat.lt_of_lt_of_le h2 (Nat.pow_le_pow_right (by omega) hN)
  have ⟨l1, l2, l3⟩ := lo_bit h4 (bit_ne0 h1)
  have l4 := bit_lt h2 l1
  refine ⟨l4, l1, h3 _ l4 l1, l3, Nat.le_of_not_lt (fun g => ?_)⟩
  rw [l3 p g] at h1
  cases h1
theorem cnt_drop {p q : Nat → Bool} {v : Nat} (hv : p v = true) (hv2 : q v = false) (h : ∀ k, k ≠ v → p k = q k) : ∀ n, cntB p n = cntB q n + (if v < n then 1 else 0)
  | 0 => rfl
  | n + 1 => by
    have ih := cnt_drop hv hv2 h n
    simp only [cntB]
    rw [ih]
    by_cases e : n = v
    · subst e
      rw [hv, hv2]
      simp
    · rw [h n e]
      by_cases e2 : v < n
      · simp [e2, show v < n + 1 by omega]; omega
      · simp [e2, show ¬ v < n + 1 by omega]
theorem lo_or {a b : Nat} (ha : a < 2 ^ 24) (hb : b < 2 ^ 24) (a0 : a ≠ 0) (b0 : b ≠ 0) : lo (a ||| b) = min (lo a) (lo b) := by
  have ⟨a1, a2, a3⟩ := lo_bit ha a0
  have ⟨b1, b2, b3⟩ := lo_bit hb b0
  refine lo_uniq (Nat.or_lt_two_pow ha hb) ?_ (fun i hi => ?_)
  · rw [or_bit]
    by_cases g : lo a ≤ lo b
    · rw [Nat.min_eq_left g, a1]; rfl
    · rw [Nat.min_eq_right (by omega), b1]; simp
  · rw [or_bit, a3 i (by omega), b3 i (by omega)]; rfl
/-- a join of two parts leaves one part less; of a part with itself, as many -/
theorem parts_step {P Q : Nat → Nat} {N j : Nat} (hN : N ≤ 24) (h : ∀ i, i < j + 1 → P i < N ∧ Q i < N) :
    (smB P Q j (P j) = smB P Q j (Q j) ∧ cntB (hdB (smB P Q (j + 1))) N = cntB (hdB (smB P Q j)) N) ∨ (smB P Q j (P j) ≠ smB P Q j (Q j) ∧ cntB (hdB (smB P Q j)) N = cntB (hdB (smB P Q (j + 1))) N + 1) := by
  have hp := sm_part (P := P) (Q := Q) (N := N) j (fun i hi => h i (by omega))
  have ⟨ha, hb⟩ := h j (by omega)
  have ⟨a1, a2, a3⟩ := hp _ ha
  have ⟨b1, b2, b3⟩ := hp _ hb
  by_cases e : smB P Q j (P j) = smB P Q j (Q j)
  · refine Or.inl ⟨e, cntB_congr (fun k hk => ?_)⟩
    have em : pmB P Q j = smB P Q j (P j) := by unfold pmB; rw [← e, Nat.or_self]
    unfold hdB
    congr 2
    by_cases hm : (pmB P Q j).testBit k = true
    · rw [pm_sub (N := N) hm, em]
      rw [em] at hm
      rw [a3 k hk hm]
    · exact congrArg lo (if_neg hm)
  · refine Or.inr ⟨e, ?_⟩
    have a4 : smB P Q j (P j) < 2 ^ 24 := Nat.lt_of_lt_of_le a2 (Nat.pow_le_pow_right (by omega) hN)
    have b4 : smB P Q j (Q j) < 2 ^ 24 := Nat.lt_of_lt_of_le b2 (Nat.pow_le_pow_right (by omega) hN)
    have la := lo_part hN hp ha
    have lb := lo_part hN hp hb
    have lm : lo (pmB P Q j) = min (lo (smB P Q j (P j))) (lo (smB P Q j (Q j))) := lo_or a4 b4 (bit_ne0 a1) (bit_ne0 b1)
    have hne : lo (smB P Q j (P j)) ≠ lo (smB P Q j (Q j)) := fun q => e (by rw [← la.2.2.1, ← lb.2.2.1, q])
    have key : ∀ v w, v < N → (v = lo (smB P Q j (P j)) ∧ w = lo (smB P Q j (Q j)) ∨ v = lo (smB P Q j (Q j)) ∧ w = lo (smB P Q j (P j))) → w < v →
        cntB (hdB (smB P Q j)) N = cntB (hdB (smB P Q (j + 1))) N + 1 := by
      intro v w hv hvw hwv
      have hmv : (pmB P Q j).testBit v = true := by
        unfold pmB; rw [or_bit]
        rcases hvw with ⟨g, _⟩ | ⟨g, _⟩
        · rw [g, la.2.1]; rfl
        · rw [g, lb.2.1]; simp
      have lmw : lo (pmB P Q j) = w := by rw [lm]; omega
      have e1 : hdB (smB P Q j) v = true := by
        unfold hdB
        rcases hvw with ⟨g, _⟩ | ⟨g, _⟩
        · rw [g, la.2.2.1]; simp
        · rw [g, lb.2.2.1]; simp
      have e2 : hdB (smB P Q (j + 1)) v = false := by
        unfold hdB
        rw [pm_sub (N := N) hmv, lmw]
        simp; omega
      have hfix : ∀ k, k < N → k ≠ v → hdB (smB P Q j) k = hdB (smB P Q (j + 1)) k := by
        intro k hk hkv
        unfold hdB
        by_cases hm : (pmB P Q j).testBit k = true
        · rw [pm_sub (N := N) hm, lmw]
          have : smB P Q j k = smB P Q j (P j) ∨ smB P Q j k = smB P Q j (Q j) := by
            unfold pmB at hm
            rw [or_bit] at hm
            rcases Bool.or_eq_true _ _ |>.mp hm with g | g
            · exact Or.inl (a3 k hk g)
            · exact Or.inr (b3 k hk g)
          apply decide_eq_decide.mpr
          rcases hvw with ⟨g1, g2⟩ | ⟨g1, g2⟩
          · rcases this with q | q
            · rw [q, ← g1]
              constructor
              · intro r; omega
              · intro r; rw [← r, g2] at hm; rw [← r, g2, lb.2.2.1] at q; exact absurd q.symm e
            · rw [q, ← g2]
          · rcases this with q | q
            · rw [q, ← g2]
            · rw [q, ← g1]
              constructor
              · intro r; omega
              · intro r; rw [← r, g2, la.2.2.1] at q; exact absurd q e
        · congr 2
          exact congrArg lo (if_neg hm).symm
      have hc : cntB (hdB (smB P Q (j + 1))) N = cntB (fun k => if k = v then false else hdB (smB P Q j) k) N := cntB_congr (fun k hk => by
        by_cases q : k = v
        · rw [if_pos q, q]; exact e2
        · rw [if_neg q]; exact (hfix k hk q).symm)
      rw [hc, cnt_drop (p := hdB (smB P Q j)) (q := fun k => if k = v then false else hdB (smB P Q j) k) (v := v) e1 (by simp) (fun k hk => by simp [hk]) N, if_pos hv]
    rcases Nat.lt_or_gt_of_ne hne with g | g
    · exact key _ _ lb.1 (Or.inr ⟨rfl, rfl⟩) g
    · exact key _ _ la.1 (Or.inl ⟨rfl, rfl⟩) g
theorem parts_0 (P Q : Nat → Nat) {N : Nat} (hN : N ≤ 24) : cntB (hdB (smB P Q 0)) N = N := cnt_all (fun k hk => by
  unfold hdB
  have : lo (smB P Q 0 k) = k := lo_uniq (Nat.pow_lt_pow_right (by omega) (by omega)) (by simp [smB, Nat.testBit_two_pow]) (fun i hi => by simp [smB, Nat.testBit_two_pow]; omega)
  simp [this])
/-- where N - 1 joins leave one part, each joins two parts -/
theorem parts_all {P Q : Nat → Nat} {N : Nat} (hN : N ≤ 24) (h1 : 1 ≤ N) (h : ∀ i, i < N - 1 → P i < N ∧ Q i < N) (hend : cntB (hdB (smB P Q (N - 1))) N = 1) :
    ∀ j, j ≤ N - 1 → cntB (hdB (smB P Q j)) N = N - j ∧ (j < N - 1 → smB P Q j (P j) ≠ smB P Q j (Q j)) := by
  have lower : ∀ m j, j + m = N - 1 → cntB (hdB (smB P Q j)) N ≤ m + 1 := by
    intro m
    induction m with
    | zero => intro j hj; rw [show j = N - 1 by omega, hend]; omega
    | succ m ih =>
      intro j hj
      have := ih (j + 1) (by omega)
      rcases parts_step (j := j) hN (fun i hi => h i (by omega)) with ⟨_, e⟩ | ⟨_, e⟩ <;> omega
  have upper : ∀ j, j ≤ N - 1 → N ≤ cntB (hdB (smB P Q j)) N + j := by
    intro j
    induction j with
    | zero => intro _; rw [parts_0 P Q hN]; omega
    | succ j ih =>
      intro hj
      have := ih (by omega)
      rcases parts_step (j := j) hN (fun i hi => h i (by omega)) with ⟨_, e⟩ | ⟨_, e⟩ <;> omega
  intro j hj
  have a := lower (N - 1 - j) j (by omega)
  have b := upper j hj
  refine ⟨by omega, fun hj2 => ?_⟩
  have c := lower (N - 1 - (j + 1)) (j + 1) (by omega)
  rcases parts_step (j := j) hN (fun i hi => h i (by omega)) with ⟨_, e⟩ | ⟨q, e⟩
  · omega
  · exact q
theorem insB_mem {f : Nat → Nat} {i v n j : Nat} (hj : j < n) : ∃ k, k < n + 1 ∧ insB f i v k = f j := by
  by_cases h : j < i
  · exact ⟨j, by omega, by unfold insB; rw [if_pos h]⟩
  · exact ⟨j + 1, by omega, by unfold insB; rw [if_neg (by omega), if_neg (by omega)]; rfl⟩
theorem KS_mem {X Y : Nat → Nat} {N t : Nat} : ∀ s, t < s → ∃ j, j < s ∧ KS X Y N s j = CK X Y N t
  | 0, h => by omega
  | s + 1, h => by
    rw [KS_succ]
    by_cases e : t = s
    · subst e
      have := (ik_spec (K := KS X Y N t) (k := CK X Y N t) (n := t)).1
      exact ⟨_, Nat.lt_succ_of_le this, by unfold insB; rw [if_neg (by omega), if_pos rfl]⟩
    · obtain ⟨j, h1, h2⟩ := KS_mem (X := X) (Y := Y) (N := N) (t := t) s (by omega)
      obtain ⟨k, k1, k2⟩ := insB_mem (f := KS X Y N s) (i := ikB (KS X Y N s) (CK X Y N s) s) (v := CK X Y N s) h1
      exact ⟨k, k1, by rw [k2, h2]⟩
theorem conn {X Y : Nat → Nat} {N : Nat} (hN : N ≤ 24) (h1 : 1 ≤ N) : ∀ t, t ≤ N - 1 → ∀ q, q < N → (GG X Y N t).testBit q = true → (smB (fP (KK X Y N)) (fQ (KK X Y N)) (N - 1) 0).testBit q = true
  | 0, _, q, hq, h => by
    have : q = 0 := by
      have h2 : Nat.testBit 1 q = true := h
      rw [show (1 : Nat) = 2 ^ 0 from rfl, Nat.testBit_two_pow] at h2
      simp at h2; omega
    rw [this]
    exact (sm_part (P := fP (KK X Y N)) (Q := fQ (KK X Y N)) (N := N) (N - 1) (fun i hi => KK_lt hN hi) 0 (by omega)).1
  | t + 1, ht, q, hq, h => by
    have ih := conn (X := X) (Y := Y) hN h1 t (by omega)
    rw [GG_succ, or_bit] at h
    by_cases e : (GG X Y N t).testBit q = true
    · exact ih q hq e
    · have hv : VX X Y N t = q := by
        rw [Bool.not_eq_true _ |>.mp e, Nat.testBit_two_pow] at h
        simpa using h
      have ⟨⟨p, p1, p2, p3, p4, p5⟩, p6⟩ := CK_spec (X := X) (Y := Y) hN (show t + 1 < N by omega)
      obtain ⟨j, j1, j2⟩ := KS_mem (X := X) (Y := Y) (N := N) (N - 1) (show t < N - 1 by omega)
      have kj : KK X Y N j = kf X Y p q := by rw [← hv, ← p5]; exact j2
      have ep : fP (KK X Y N) j = min p q := by unfold fP; rw [kj, kf_min (by omega) (by omega)]
      have eq : fQ (KK X Y N) j = max p q := by unfold fQ; rw [kj, kf_max (by omega) (by omega)]
      have hpart := sm_part (P := fP (KK X Y N)) (Q := fQ (KK X Y N)) (N := N) j (fun i hi => KK_lt hN (by omega))
      have ⟨l1, l2⟩ := KK_lt (X := X) (Y := Y) hN j1
      have a := pm_a hpart l1
      have b := pm_b hpart l2
      have hp2 : (pmB (fP (KK X Y N)) (fQ (KK X Y N)) j).testBit p = true := by
        rcases Nat.le_total p q with g | g
        · rw [ep, Nat.min_eq_left g] at a; exact a
        · rw [eq, Nat.max_eq_left g] at b; exact b
      have hq2 : (pmB (fP (KK X Y N)) (fQ (KK X Y N)) j).testBit q = true := by
        rcases Nat.le_total p q with g | g
        · rw [eq, Nat.max_eq_right g] at b; exact b
        · rw [ep, Nat.min_eq_right g] at a; exact a
      have hall := sm_part (P := fP (KK X Y N)) (Q := fQ (KK X Y N)) (N := N) (N - 1) (fun i hi => KK_lt hN hi)
      have c := sm_pm (N := N) p1 j1 (fun i hi => KK_lt hN hi) hp2 hq2
      have d := ih p p1 p3
      rw [← (hall 0 (by omega)).2.2 p p1 d]
      exact c
theorem cnt_full {p : Nat → Bool} : ∀ {n}, cntB p n = n → ∀ k, k < n → p k = true
  | 0, _, k, hk => by omega
  | n + 1, h, k, hk => by
    have := cntB_le p n
    simp only [cntB] at h
    have e : p n = true := by
      cases q : p n with
      | true => rfl
      | false => rw [q] at h; simp at h; omega
    rcases Nat.lt_succ_iff_lt_or_eq.mp hk with g | g
    · exact cnt_full (by rw [e] at h; simp at h; exact h) k g
    · rw [g]; exact e
/-- at the end all are in one part -/
theorem tree_all {X Y : Nat → Nat} {N : Nat} (hN : N ≤ 24) {p q : Nat} (hp : p < N) (hq : q < N) : (smB (fP (KK X Y N)) (fQ (KK X Y N)) (N - 1) p).testBit q = true := by
  have ⟨g1, g2, g3⟩ := GG_spec (X := X) (Y := Y) hN (N - 1) (by omega)
  have full := cnt_full (p := (GG X Y N (N - 1)).testBit) (n := N) (by omega)
  have hall := sm_part (P := fP (KK X Y N)) (Q := fQ (KK X Y N)) (N := N) (N - 1) (fun i hi => KK_lt hN hi)
  have a := conn hN (by omega) (N - 1) (by omega) p hp (full p hp)
  have b := conn hN (by omega) (N - 1) (by omega) q hq (full q hq)
  rw [(hall 0 (by omega)).2.2 p hp a]
  exact b
theorem tree_end {X Y : Nat → Nat} {N : Nat} (hN : N ≤ 24) (h1 : 1 ≤ N) : cntB (hdB (smB (fP (KK X Y N)) (fQ (KK X Y N)) (N - 1))) N = 1 := by
  have hall := sm_part (P := fP (KK X Y N)) (Q := fQ (KK X Y N)) (N := N) (N - 1) (fun i hi => KK_lt hN hi)
  have e1 : cntB (Nat.testBit 1) N = 1 := by
    obtain ⟨n, rfl⟩ : ∃ n, N = n + 1 := ⟨N - 1, by omega⟩
    exact cnt_bit1 n
  refine (cntB_congr (fun k hk => ?_)).trans e1
  have l := lo_part hN hall hk
  have e : lo (smB (fP (KK X Y N)) (fQ (KK X Y N)) (N - 1) k) = 0 := by
    refine Nat.eq_zero_of_not_pos (fun h => ?_)
    have := l.2.2.2.1 0 h
    rw [tree_all hN hk (by omega)] at this
    cases this
  unfold hdB
  rw [e, show (1 : Nat) = 2 ^ 0 from rfl, Nat.testBit_two_pow]
theorem tree_parts {X Y : Nat → Nat} {N : Nat} (hN : N ≤ 24) {j : Nat} (hj : j ≤ N - 1) : cntB (hdB (smB (fP (KK X Y N)) (fQ (KK X Y N)) j)) N = N - j ∧ (j < N - 1 → smB (fP (KK X Y N)) (fQ (KK X Y N)) j (fP (KK X Y N) j) ≠ smB (fP (KK X Y N)) (fQ (KK X Y N)) j (fQ (KK X Y N) j)) := by
  by_cases h1 : 1 ≤ N
  · exact parts_all hN h1 (fun i hi => KK_lt hN hi) (tree_end hN h1) j hj
  · have : N = 0 := by omega
    subst this
    exact ⟨by simp [cntB], fun h => by omega⟩
def lkB (P Q : Nat → Nat) (p n : Nat) : Nat := cntB (fun j => decide (P j = p) || decide (Q j = p)) n
theorem sumA2 {F n : Nat} {A : Nat → Nat} {aparts : Nat → Int32} (hF : 1000 ≤ F) (hn : n ≤ 24) (h : ∀ j, j < n → aparts j = nI (A j)) : mX2_sumAparts F (nI n) aparts = some (nI (sumB A n)) := by
  unfold mX2_sumAparts
  refine lp (fun k => (nI (sumB A k), nI k)) 0 n _ (by omega) rfl (fun k _ hk => ?_) ?_ (by omega)
  · simp (disch := omega) [mX2_sumAparts_b4, Option.bind_some, nI_leE, nI_ltE, nI_eqE, nI_1, nI_add, rdI_n, rdL_n, wrI_n, wrL_n, has6b, bI_0, bI_1, nI_m1, nI_lt0, nI_le0, nI_0le, nI_eq0, leF, leT, ltF, ltT, eqF, h, sumB]
  · simp (disch := omega) [mX2_sumAparts_b4, Option.bind_some, nI_leE, nI_ltE, nI_eqE, nI_1, nI_add, rdI_n, rdL_n, wrI_n, wrL_n, has6b, bI_0, bI_1, nI_m1, nI_lt0, nI_le0, nI_0le, nI_eq0, leF, leT, ltF, ltT, eqF]
def mkrB (P Q : Nat → Nat) (m n : Nat) : Option Nat := fstB (fun j => decide (pmB P Q j = m)) n
theorem maker2 {F n m : Nat} {P Q : Nat → Nat} {parts : Nat → Int32} (hF : 1000 ≤ F) (hn : n ≤ 24) (hm : m < 2 ^ 31) (h : ∀ j, j < n → parts j = nI (pmB P Q j) ∧ pmB P Q j < 2 ^ 31) : mX2_makerOf F (nI m) (nI n) parts = some (oI (mkrB P Q m n)) := by
  unfold mX2_makerOf
  refine (lpS nI (fun j => decide (pmB P Q j = m)) n nI (-1) rfl (fun k hk _ => ?_) (fun _ => ?_) (by omega)).trans ?_
  · have ⟨a, b⟩ := h k hk
    by_cases h1 : pmB P Q k = m
    · have h2 : nI (pmB P Q k) = nI m := congrArg nI h1
      simp (disch := omega) [mX2_makerOf_b2, nI_leE, leF, rdI_n, nI_1, a, h1]
    · have h2 : ¬ nI (pmB P Q k) = nI m := by rw [nI_eqE b hm]; exact h1
      simp (disch := omega) [mX2_makerOf_b2, nI_leE, leF, rdI_n, nI_1, a, h1, h2]
  · simp (disch := omega) [mX2_makerOf_b2, Option.bind_some, nI_leE, nI_ltE, nI_eqE, nI_1, nI_add, rdI_n, rdL_n, wrI_n, wrL_n, has6b, bI_0, bI_1, nI_m1, nI_lt0, nI_le0, nI_0le, nI_eq0, leF, leT, ltF, ltT, eqF]
  · rw [oI_def]; rfl
/-- how many joins are within a zoom's radius -/
def rad (z : Nat) : Nat := 1024 / 2 ^ z
def jwB (A : Nat → Nat) (n z : Nat) : Nat := match fstB (fun j => decide (rad z * rad z < A j)) n with
  | some j => j
  | none => n
theorem jwB_le (A : Nat → Nat) (n z : Nat) : jwB A n z ≤ n := by
  unfold jwB
  cases h : fstB (fun j => decide (rad z * rad z < A j)) n with
  | none => exact Nat.le_refl _
  | some j => exact Nat.le_of_lt (fstB_lt h)
theorem rad_le (z : Nat) : rad z ≤ 1024 := Nat.div_le_self _ _
theorem rad_sq (z : Nat) : rad z * rad z ≤ 1048576 := Nat.mul_le_mul (rad_le z) (rad_le z)
theorem radI {z : Nat} (hz : z ≤ 10) : (1024 : Int32) >>> (nI z &&& 31) = nI (rad z) := nI_shr (m := 1024) (by omega) (by omega)
theorem within2 {F n z : Nat} {A : Nat → Nat} {aparts : Nat → Int32} (hF : 1000 ≤ F) (hn : n ≤ 24) (hz : z ≤ 10) (h : ∀ j, j < n → aparts j = nI (A j) ∧ A j < 4194304) : mX2_joinsWithin F (nI z) (nI n) aparts = some (nI (jwB A n z)) := by
  have hr := rad_le z
  have hr2 := rad_sq z
  unfold mX2_joinsWithin
  rw [radI hz]
  simp only [Option.bind_some]
  refine (lpS nI (fun j => decide (rad z * rad z < A j)) n nI (nI n) rfl (fun k hk _ => ?_) (fun _ => ?_) (by omega)).trans ?_
  · have ⟨a, b⟩ := h k hk
    by_cases h1 : rad z * rad z < A k <;> simp (disch := omega) [mX2_joinsWithin_b8, Option.bind_some, nI_leE, nI_ltE, nI_eqE, nI_1, nI_add, rdI_n, rdL_n, wrI_n, wrL_n, has6b, bI_0, bI_1, nI_m1, nI_lt0, nI_le0, nI_0le, nI_eq0, leF, leT, ltF, ltT, eqF, pk_mul, a, h1]
  · simp (disch := omega) [mX2_joinsWithin_b8, Option.bind_some, nI_leE, nI_ltE, nI_eqE, nI_1, nI_add, rdI_n, rdL_n, wrI_n, wrL_n, has6b, bI_0, bI_1, nI_m1, nI_lt0, nI_le0, nI_0le, nI_eq0, leF, leT, ltF, ltT, eqF]
  · unfold jwB
    cases fstB (fun j => decide (rad z * rad z < A j)) n <;> rfl
theorem partOf2 {F n m p : Nat} {P Q : Nat → Nat} {parts : Nat → Int32} (hF : 1000 ≤ F) (hn : n ≤ 24) (hm : m ≤ n) (hp : p < 31) (h : ∀ j, j < n → parts j = nI (pmB P Q j) ∧ pmB P Q j < 2 ^ 31) :
    mX2_partOf F (nI p) (nI m) (nI n) parts = some (nI (smB P Q m p)) := by
  unfold mX2_partOf
  have e1 : (if nI n < nI m then nI n else nI m) = nI m := if_neg (by rw [nI_ltE (by omega) (by omega)]; omega)
  have e2 : nI m - 1 = dn m := by
    cases m with
    | zero => rfl
    | succ m => exact nI_s1 (by omega)
  rw [e1]
  simp only [Option.bind_some]
  rw [e2]
  refine (lpD dn (fun j => (pmB P Q j).testBit p) (fun j => nI (pmB P Q j)) (nI (2 ^ p)) m rfl (fun k hk _ => ?_) (fun _ => ?_) (by omega)).trans ?_
  · have ⟨a, b⟩ := h k (by omega)
    cases h1 : (pmB P Q k).testBit p <;> simp (disch := omega) [mX2_partOf_b11, dn, dn_pred, Option.bind_some, nI_leE, nI_ltE, nI_eqE, nI_1, nI_add, rdI_n, rdL_n, wrI_n, wrL_n, has6b, bI_0, bI_1, nI_m1, nI_lt0, nI_le0, nI_0le, nI_eq0, leF, leT, ltF, ltT, eqF, a, h1]
  · have e := nI_bit hp
    simp [mX2_partOf_b11, dn, m1_lt0, e]
  · rw [sm_last]
    cases lstB (fun j => (pmB P Q j).testBit p) m <;> rfl
def ROWS (N : Nat) (X Y W : Nat → Nat) (ws xs ys : Nat → Int32) : Prop := ∀ i, i < N → ws i = nI (W i) ∧ xs i = nI (X i) ∧ ys i = nI (Y i)
def GOOD (N : Nat) (X Y W : Nat → Nat) : Prop := N ≤ 24 ∧ IN N X Y ∧ (∀ i, i < N → 1 ≤ W i ∧ W i ≤ 99) ∧ ∀ i j, i < j → j < N → X i < X j ∨ X i = X j ∧ Y i < Y j
theorem rows_pt {N : Nat} {X Y W : Nat → Nat} {ws xs ys : Nat → Int32} (h : ROWS N X Y W ws xs ys) : PT N X Y xs ys := fun i hi => (h i hi).2
theorem rows_w {N : Nat} {X Y W : Nat → Nat} {ws xs ys : Nat → Int32} (h : ROWS N X Y W ws xs ys) : ∀ i, i < N → ws i = nI (W i) := fun i hi => (h i hi).1
theorem rows_eq {N : Nat} {X Y W : Nat → Nat} {ws xs ys ws' xs' ys' : Nat → Int32} (h : ROWS N X Y W ws xs ys) (h2 : ROWS N X Y W ws' xs' ys') : ∀ i, i < N → xs i = xs' i ∧ ys i = ys' i :=
  fun i hi => ⟨by rw [(h i hi).2.1, (h2 i hi).2.1], by rw [(h i hi).2.2, (h2 i hi).2.2]⟩
theorem good_pl {N : Nat} {X Y W : Nat → Nat} (h : GOOD N X Y W) {p q : Nat} (hpq : p < q) (hq : q < N) : plB X Y p < plB X Y q := by
  have a := h.2.2.2 p q hpq hq
  have b := h.2.1 p (by omega)
  have c := h.2.1 q hq
  unfold plB
  omega
theorem good_ne {N : Nat} {X Y W : Nat → Nat} (h : GOOD N X Y W) {p q : Nat} (hp : p < N) (hq : q < N) (e : plB X Y p = plB X Y q) : p = q := by
  rcases Nat.lt_trichotomy p q with g | g | g
  · have := good_pl h g hq; omega
  · exact g
  · have := good_pl h g hp; omega
theorem pairB_lt {N : Nat} {X Y K : Nat → Nat} {j : Nat} (hI : IN N X Y) (h : fP K j < N ∧ fQ K j < N) : pairB X Y K j < 2 ^ 40 := by
  have a := pl_lt hI h.1
  have b := pl_lt hI h.2
  unfold pairB
  omega
def hpB (B : Nat → Nat) (b n : Nat) : Bool := (fstB (fun j => decide (B j = b)) n).isSome
theorem hpB_iff {B : Nat → Nat} {b n : Nat} : hpB B b n = true ↔ ∃ j, j < n ∧ B j = b := by
  unfold hpB
  cases h : fstB (fun j => decide (B j = b)) n with
  | none =>
    have := fstB_none.mp h
    simp
    intro j hj
    simpa using this j hj
  | some k =>
    have ⟨a, c, _⟩ := fstB_some.mp h
    simp
    exact ⟨k, a, by simpa using c⟩
theorem hpB_succ {B : Nat → Nat} {b n : Nat} : hpB B b (n + 1) = (hpB B b n || decide (B n = b)) := by
  unfold hpB
  simp only [fstB]
  cases h : fstB (fun j => decide (B j = b)) n with
  | some k => rfl
  | none => by_cases e : B n = b <;> simp [e]
theorem lgc_eq (x y : Int64) : (lg_cmp x y = 0) = (x = y) := by
  apply propext
  unfold lg_cmp
  rcases lg_tri x y with h | h | h
  · rw [if_neg (lg_lt_not h), if_neg (lg_lt_ne h)]
    exact ⟨fun g => absurd g (by decide +kernel), fun g => absurd g (lg_lt_ne h)⟩
  · subst h
    simp
  · rw [if_pos h]
    exact ⟨fun g => absurd g (by decide +kernel), fun g => absurd g.symm (lg_lt_ne h)⟩
theorem hasPair2 {F n b : Nat} {B : Nat → Nat} {pairs : Nat → Int64} (hF : 1000 ≤ F) (hn : n ≤ 24) (hb : b < 2 ^ 63) (h : ∀ j, j < n → pairs j = lN (B j) ∧ B j < 2 ^ 63) : mX2_hasPair F (lN b) (nI n) pairs = some (bI (hpB B b n)) := by
  unfold mX2_hasPair
  refine (lpS nI (fun j => decide (B j = b)) n (fun _ => (1 : Int32)) (0 : Int32) rfl (fun k hk _ => ?_) (fun _ => ?_) (by omega)).trans ?_
  · have ⟨a, c⟩ := h k hk
    by_cases e : B k = b
    · simp (disch := omega) [mX2_hasPair_b2, Option.bind_some, nI_leE, nI_ltE, nI_eqE, nI_1, nI_add, rdI_n, rdL_n, wrI_n, wrL_n, has6b, bI_0, bI_1, nI_m1, nI_lt0, nI_le0, nI_0le, nI_eq0, leF, leT, ltF, ltT, eqF, lgc_eq, a, e]
    · have e2 : ¬ lN (B k) = lN b := by rw [lN_eqE c hb]; exact e
      simp (disch := omega) [mX2_hasPair_b2, Option.bind_some, nI_leE, nI_ltE, nI_eqE, nI_1, nI_add, rdI_n, rdL_n, wrI_n, wrL_n, has6b, bI_0, bI_1, nI_m1, nI_lt0, nI_le0, nI_0le, nI_eq0, leF, leT, ltF, ltT, eqF, lgc_eq, a, e, e2]
  · simp (disch := omega) [mX2_hasPair_b2, Option.bind_some, nI_leE, nI_ltE, nI_eqE, nI_1, nI_add, rdI_n, rdL_n, wrI_n, wrL_n, has6b, bI_0, bI_1, nI_m1, nI_lt0, nI_le0, nI_0le, nI_eq0, leF, leT, ltF, ltT, eqF]
  · unfold hpB
    cases fstB (fun j => decide (B j = b)) n <;> rfl
theorem unlike2 {F n m : Nat} {B C : Nat → Nat} {pairs qairs : Nat → Int64} (hF : 1000 ≤ F) (hn : n ≤ 24) (hm : m ≤ 24) (h : ∀ j, j < n → pairs j = lN (B j) ∧ B j < 2 ^ 63) (h2 : ∀ j, j < m → qairs j = lN (C j) ∧ C j < 2 ^ 63) :
    mX2_countUnlike F (nI n) (nI m) pairs qairs = some (nI (cntB (fun j => !hpB C (B j) m) n)) := by
  unfold mX2_countUnlike
  refine lp (fun k => (nI (cntB (fun j => !hpB C (B j) m) k), nI k)) 0 n _ (by omega) rfl (fun k _ hk => ?_) ?_ (by omega)
  · have ⟨a, c⟩ := h k hk
    have hp := hasPair2 (F := F) hF hm c h2
    cases e : hpB C (B k) m <;> simp (disch := omega) [mX2_countUnlike_b4, Option.bind_some, nI_leE, nI_ltE, nI_eqE, nI_1, nI_add, rdI_n, rdL_n, wrI_n, wrL_n, has6b, bI_0, bI_1, nI_m1, nI_lt0, nI_le0, nI_0le, nI_eq0, leF, leT, ltF, ltT, eqF, a, hp, e, cntB]
  · simp (disch := omega) [mX2_countUnlike_b4, Option.bind_some, nI_leE, nI_ltE, nI_eqE, nI_1, nI_add, rdI_n, rdL_n, wrI_n, wrL_n, has6b, bI_0, bI_1, nI_m1, nI_lt0, nI_le0, nI_0le, nI_eq0, leF, leT, ltF, ltT, eqF]
/-- sums over what both have -/
theorem sumB_add {f g : Nat → Nat} : ∀ n, sumB (fun k => f k + g k) n = sumB f n + sumB g n
  | 0 => rfl
  | n + 1 => by simp only [sumB]; rw [sumB_add n]; omega
theorem sumB_0 : ∀ n, sumB (fun _ => 0) n = 0
  | 0 => rfl
  | n + 1 => by simp only [sumB]; rw [sumB_0 n]
theorem sumB_swap {f : Nat → Nat → Nat} {m : Nat} : ∀ n, sumB (fun j => sumB (fun k => f j k) m) n = sumB (fun k => sumB (fun j => f j k) n) m
  | 0 => by simp only [sumB]; exact (sumB_0 m).symm
  | n + 1 => by simp only [sumB]; rw [sumB_swap n, ← sumB_add]
theorem sum_one {B : Nat → Nat} {b c : Nat} : ∀ {m}, (∀ i j, i < j → j < m → B i ≠ B j) → sumB (fun k => if B k = b then c else 0) m = if hpB B b m = true then c else 0
  | 0, _ => by simp [sumB, hpB, fstB]
  | m + 1, h => by
    simp only [sumB]
    rw [sum_one (m := m) (fun i j h1 h2 => h i j h1 (by omega)), hpB_succ]
    by_cases e : B m = b
    · have : hpB B b m = false := by
        cases g : hpB B b m with
        | false => rfl
        | true =>
          obtain ⟨j, j1, j2⟩ := hpB_iff.mp g
          exact absurd (j2.trans e.symm) (h j m j1 (by omega))
      simp [e, this]
    · simp [e]
theorem tr2_pq {X Y : Nat → Nat} {N : Nat} (hN : N ≤ 24) {aparts fs firsts ja os parts pa roots seconds : Nat → Int32} {pairs : Nat → Int64} (h : TR2 X Y N aparts fs firsts ja os parts pa roots seconds pairs) :
    ∀ j, j < N - 1 → firsts j = nI (fP (KK X Y N) j) ∧ seconds j = nI (fQ (KK X Y N) j) ∧ fP (KK X Y N) j < 100 ∧ fQ (KK X Y N) j < 100 := fun j hj => by
  have a := h.1 j hj
  have b := KK_lt (X := X) (Y := Y) hN hj
  exact ⟨a.2.2.1, a.2.2.2.2.2.2.1, by omega, by omega⟩
theorem tr_pm {X Y : Nat → Nat} {N : Nat} (hN : N ≤ 24) {j : Nat} (hj : j < N - 1) : pmB (fP (KK X Y N)) (fQ (KK X Y N)) j < 2 ^ N := pm_lt (fun i hi => KK_lt hN (by omega))
theorem tr2_pm {X Y : Nat → Nat} {N : Nat} (hN : N ≤ 24) {aparts fs firsts ja os parts pa roots seconds : Nat → Int32} {pairs : Nat → Int64} (h : TR2 X Y N aparts fs firsts ja os parts pa roots seconds pairs) :
    ∀ j, j < N - 1 → parts j = nI (pmB (fP (KK X Y N)) (fQ (KK X Y N)) j) ∧ pmB (fP (KK X Y N)) (fQ (KK X Y N)) j < 2 ^ 31 := fun j hj => ⟨(h.1 j hj).2.2.2.2.1, lt31 (tr_pm hN hj) hN⟩
theorem tr2_pair {X Y : Nat → Nat} {N : Nat} (hN : N ≤ 24) (hI : IN N X Y) {aparts fs firsts ja os parts pa roots seconds : Nat → Int32} {pairs : Nat → Int64} (h : TR2 X Y N aparts fs firsts ja os parts pa roots seconds pairs) :
    ∀ j, j < N - 1 → pairs j = lN (pairB X Y (KK X Y N) j) ∧ pairB X Y (KK X Y N) j < 2 ^ 63 := fun j hj => ⟨(h.1 j hj).2.2.2.2.2.2.2, by have := pairB_lt hI (KK_lt (X := X) (Y := Y) hN hj); omega⟩
theorem k0T : ((bI true : Int32) = 0) = False := by decide +kernel
theorem k0F : ((bI false : Int32) = 0) = True := by decide +kernel
theorem good_of_pl {N : Nat} {X Y W : Nat → Nat} (hN : N ≤ 24) (hI : IN N X Y) (hW : ∀ i, i < N → 1 ≤ W i ∧ W i ≤ 99) (h : ∀ i j, i < j → j < N → plB X Y i < plB X Y j) : GOOD N X Y W := by
  refine ⟨hN, hI, hW, fun i j hij hj => ?_⟩
  have a := h i j hij hj
  have b := hI i (by omega)
  have c := hI j hj
  unfold plB at a
  omega
theorem good_ins {N a b w : Nat} {X Y W : Nat → Nat} (h : GOOD N X Y W) (hN : N < 24) (ha : a < 1024) (hb : b < 1024) (hw : 1 ≤ w ∧ w ≤ 99) (hne : ∀ p, p < N → ¬ (X p = a ∧ Y p = b)) :
    GOOD (N + 1) (insB X (ipB X Y a b N) a) (insB Y (ipB X Y a b N) b) (insB W (ipB X Y a b N) w) := by
  have ⟨s1, s2, s3⟩ := ip_spec (X := X) (Y := Y) (a := a) (b := b) (N := N)
  generalize ipB X Y a b N = i0 at s1 s2 s3 ⊢
  refine good_of_pl (by omega) (fun j hj => ?_) (fun j hj => ?_) (fun i j hij hj => ?_)
  · exact ⟨insB_all (P := fun v => v < 1024) s1 (fun j hj => (h.2.1 j hj).1) ha j hj, insB_all (P := fun v => v < 1024) s1 (fun j hj => (h.2.1 j hj).2) hb j hj⟩
  · exact insB_all (P := fun v => 1 ≤ v ∧ v ≤ 99) s1 h.2.2.1 hw j hj
  · have key : ∀ j, j < N + 1 → plB (insB X i0 a) (insB Y i0 b) j = if j < i0 then plB X Y j else if j = i0 then a * 1024 + b else plB X Y (j - 1) := by
      intro j _
      unfold plB insB
      split
      · rfl
      · split <;> rfl
    rw [key i (by omega), key j hj]
    have lowS : 0 < i0 → plB X Y (i0 - 1) < a * 1024 + b := by
      intro h0
      have q := s3 h0
      have q2 := hne (i0 - 1) (by omega)
      have q3 := h.2.1 (i0 - 1) (by omega)
      unfold plB
      omega
    have lows : ∀ p, p < i0 → plB X Y p < a * 1024 + b := by
      intro p hp
      by_cases e : p = i0 - 1
      · rw [e]; exact lowS (by omega)
      · have := good_pl h (show p < i0 - 1 by omega) (by omega)
        have := lowS (by omega)
        omega
    have highs : ∀ p, i0 ≤ p → p < N → a * 1024 + b < plB X Y p := by
      intro p hp hpN
      have q := s2 p hp hpN
      have q3 := h.2.1 p hpN
      unfold plB
      omega
    by_cases c1 : i < i0
    · rw [if_pos c1]
      by_cases d1 : j < i0
      · rw [if_pos d1]; exact good_pl h hij (by omega)
      · rw [if_neg d1]
        by_cases d2 : j = i0
        · rw [if_pos d2]; exact lows i c1
        · rw [if_neg d2]
          have e1 := lows i c1
          have e2 := highs (j - 1) (by omega) (by omega)
          omega
    · rw [if_neg c1, if_neg (show ¬ j < i0 by omega), if_neg (show ¬ j = i0 by omega)]
      by_cases c2 : i = i0
      · rw [if_pos c2]; exact highs (j - 1) (by omega) (by omega)
      · rw [if_neg c2]; exact good_pl h (by omega) (by omega)
theorem good_del {N p : Nat} {X Y W : Nat → Nat} (h : GOOD N X Y W) (hp : p < N) : GOOD (N - 1) (delB X p) (delB Y p) (delB W p) := by
  have hN := h.1
  refine good_of_pl (by omega) (fun j hj => ?_) (fun j hj => ?_) (fun i j hij hj => ?_)
  · unfold delB
    split
    · exact h.2.1 j (by omega)
    · exact h.2.1 (j + 1) (by omega)
  · unfold delB
    split
    · exact h.2.2.1 j (by omega)
    · exact h.2.2.1 (j + 1) (by omega)
  · have key : ∀ j, plB (delB X p) (delB Y p) j = if j < p then plB X Y j else plB X Y (j + 1) := by
      intro j
      unfold plB delB
      split <;> rfl
    rw [key i, key j]
    split
    · split
      · exact good_pl h hij (by omega)
      · exact good_pl h (by omega) (by omega)
    · rw [if_neg (by omega)]
      exact good_pl h (by omega) (by omega)
theorem good_0 (X Y W : Nat → Nat) : GOOD 0 X Y W := ⟨by omega, fun i hi => by omega, fun i hi => by omega, fun i j _ hj => by omega⟩
theorem copy4r {F N : Nat} {X Y W : Nat → Nat} (hF : 1000 ≤ F) (hN : N ≤ 24) (c : Int32) {ws xs ys us vs zs : Nat → Int32} (h : ROWS N X Y W us vs zs) : ∃ r, mX4_copy F c (nI N) ws xs ys us vs zs = some r ∧ r.1 = nI N ∧ ROWS N X Y W r.2.1 r.2.2.1 r.2.2.2 := by
  obtain ⟨w, x, y, e, g⟩ := copy4 (F := F) hF hN c ws xs ys us vs zs
  refine ⟨_, e, rfl, fun i hi => ?_⟩
  have a := g i hi
  have b := h i hi
  exact ⟨a.1.trans b.1, a.2.1.trans b.2.1, a.2.2.trans b.2.2⟩
theorem start8 {F N : Nat} {X Y W : Nat → Nat} (hF : 1000 ≤ F) (hN : N ≤ 24) (c : Int32) {ws xs ys us vs zs : Nat → Int32} (h : ROWS N X Y W us vs zs) : ∃ r, mX8_startRepair F c (nI N) ws xs ys us vs zs = some r ∧ r.1 = nI N ∧ ROWS N X Y W r.2.1 r.2.2.1 r.2.2.2 := by
  obtain ⟨r, e, g1, g2⟩ := copy4r (F := F) (ws := ws) (xs := xs) (ys := ys) hF hN c h
  refine ⟨(r.1, r.2.1, r.2.2.1, r.2.2.2), ?_, g1, g2⟩
  unfold mX8_startRepair
  rw [e]
  rfl
theorem put4r {F N a b w : Nat} {X Y W : Nat → Nat} {ws xs ys : Nat → Int32} {c : Int32} (hF : 1000 ≤ F) (hN : N < 24) (ha : a < 1024) (hb : b < 1024) (hI : IN N X Y) (hc : c = nI N) (hP : ROWS N X Y W ws xs ys) :
    ∃ r, mX4_put F (nI a) (nI b) (nI w) c ws xs ys = some r ∧ r.1 = nI (N + 1) ∧ ROWS (N + 1) (insB X (ipB X Y a b N) a) (insB Y (ipB X Y a b N) b) (insB W (ipB X Y a b N) w) r.2.1 r.2.2.1 r.2.2.2 := by
  subst hc
  obtain ⟨x, y, z, e, g⟩ := put4 (F := F) (w := w) hF hN ha hb hI hP
  exact ⟨_, e, rfl, g⟩
theorem drop4r {F N p : Nat} {X Y W : Nat → Nat} {ws xs ys : Nat → Int32} {c : Int32} (hF : 1000 ≤ F) (hN : N ≤ 24) (hp : p < N) (hc : c = nI N) (hP : ROWS N X Y W ws xs ys) :
    ∃ r, mX4_drop F (nI p) c ws xs ys = some r ∧ r.1 = nI (N - 1) ∧ ROWS (N - 1) (delB X p) (delB Y p) (delB W p) r.2.1 r.2.2.1 r.2.2.2 := by
  subst hc
  obtain ⟨x, y, z, e, g⟩ := drop4 (F := F) hF hN hp hP
  exact ⟨_, e, rfl, g⟩
theorem rebuild2r {F N : Nat} {X Y : Nat → Nat} {xs ys : Nat → Int32} {pc : Int32} (hF : 1000 ≤ F) (hN : N ≤ 24) (hP : PT N X Y xs ys) (hI : IN N X Y) (hc : pc = nI N) (c : Int32) (aparts fs firsts ja : Nat → Int32) (keys links : Nat → Int64) (nodes os : Nat → Int32) (pairs : Nat → Int64) (parts pa roots seconds : Nat → Int32) :
    ∃ r, mX2_rebuild F c pc aparts fs firsts ja keys links nodes os pairs parts xs ys pa roots seconds = some r ∧ r.1 = nI (N - 1) ∧
      TR2 X Y N r.2.1 r.2.2.1 r.2.2.2.1 r.2.2.2.2.1 r.2.2.2.2.2.2.2.2.1 r.2.2.2.2.2.2.2.2.2.2.1 r.2.2.2.2.2.2.2.2.2.2.2.1 r.2.2.2.2.2.2.2.2.2.2.2.2.1 r.2.2.2.2.2.2.2.2.2.2.2.2.2 r.2.2.2.2.2.2.2.2.2.1 := by
  subst hc
  exact rebuild2 hF hN hP hI c aparts fs firsts ja keys links nodes os pairs parts pa roots seconds
theorem canB_true {N : Nat} {X Y W : Nat → Nat} {ws xs ys : Nat → Int32} {a b : Int32} (hI : IN N X Y) (hP : ROWS N X Y W ws xs ys) (h : canB N xs ys a b = true) :
    N < 24 ∧ ∃ a' b', a = nI a' ∧ b = nI b' ∧ a' < 1024 ∧ b' < 1024 ∧ ∀ p, p < N → ¬ (X p = a' ∧ Y p = b') := by
  unfold canB at h
  have ⟨h1, h2⟩ := (Bool.and_eq_true _ _).mp h
  have h3 := of_decide_eq_true h1
  have h4 := fstB_none.mp (of_decide_eq_true h2)
  refine ⟨h3.2.2.2.2, a.toInt.toNat, b.toInt.toNat, tI_nI h3.1, tI_nI h3.2.2.1, by omega, by omega, fun p hp g => ?_⟩
  have q := h4 p hp
  have ⟨_, r2, r3⟩ := hP p hp
  rw [r2, r3, g.1, g.2, ← tI_nI h3.1, ← tI_nI h3.2.2.1] at q
  simp at q
theorem unlike2r {F n m : Nat} {B C : Nat → Nat} {pairs qairs : Nat → Int64} {c d : Int32} (hF : 1000 ≤ F) (hn : n ≤ 24) (hm : m ≤ 24) (hc : c = nI n) (hd : d = nI m) (h : ∀ j, j < n → pairs j = lN (B j) ∧ B j < 2 ^ 63) (h2 : ∀ j, j < m → qairs j = lN (C j) ∧ C j < 2 ^ 63) :
    mX2_countUnlike F c d pairs qairs = some (nI (cntB (fun j => !hpB C (B j) m) n)) := by
  subst hc hd
  exact unlike2 hF hn hm h h2
def t1 (M x : Nat) : Nat := x - ((x / 2) &&& M)
def t2 (M x : Nat) : Nat := (x &&& M) + ((x / 4) &&& M)
def t3 (M x : Nat) : Nat := (x + x / 16) &&& M
theorem and_split (x L H : Nat) (hL : L < 256) : x &&& (L + 256 * H) = ((x % 256) &&& L) + 256 * ((x / 256) &&& H) := by
  have h1 : (x &&& (L + 256 * H)) % 2 ^ 8 = (x % 2 ^ 8) &&& ((L + 256 * H) % 2 ^ 8) := Nat.and_mod_two_pow
  have h2 : (x &&& (L + 256 * H)) / 2 ^ 8 = (x / 2 ^ 8) &&& ((L + 256 * H) / 2 ^ 8) := Nat.and_div_two_pow
  have e1 : (L + 256 * H) % 2 ^ 8 = L := by omega
  have e2 : (L + 256 * H) / 2 ^ 8 = H := by omega
  rw [e1] at h1
  rw [e2] at h2
  have e3 : (2 : Nat) ^ 8 = 256 := by decide
  rw [e3] at h1 h2
  rw [← h1, ← h2]
  omega
theorem b55 : ∀ (a : Fin 256) (c : Fin 2), ((a.val / 2 + 128 * c.val) &&& 85) = ((a.val / 2) &&& 85) := by decide +kernel
theorem b33 : ∀ (a : Fin 256) (c : Fin 4), ((a.val / 4 + 64 * c.val) &&& 51) = ((a.val / 4) &&& 51) := by decide +kernel
theorem b0f : ∀ (a : Fin 69) (c : Fin 5), ((a.val + a.val / 16 + 16 * c.val) &&& 15) = ((a.val + a.val / 16) &&& 15) := by decide +kernel
theorem b55le : ∀ (a : Fin 256), ((a.val / 2) &&& 85) ≤ a.val := by decide +kernel
theorem t1_split {a h M : Nat} (ha : a < 256) : t1 (85 + 256 * M) (a + 256 * h) = t1 85 a + 256 * t1 M h := by
  unfold t1
  have b := b55 ⟨a, ha⟩ ⟨h % 2, Nat.mod_lt _ (by omega)⟩
  have l := b55le ⟨a, ha⟩
  have l2 : (h / 2) &&& M ≤ h := Nat.le_trans Nat.and_le_left (Nat.div_le_self _ _)
  simp only [] at b l
  rw [and_split _ _ _ (by omega), show (a + 256 * h) / 2 % 256 = a / 2 + 128 * (h % 2) by omega, show (a + 256 * h) / 2 / 256 = h / 2 by omega, b]
  omega
theorem t2_split {a h M : Nat} (ha : a < 256) : t2 (51 + 256 * M) (a + 256 * h) = t2 51 a + 256 * t2 M h := by
  unfold t2
  have b := b33 ⟨a, ha⟩ ⟨h % 4, Nat.mod_lt _ (by omega)⟩
  simp only [] at b
  rw [and_split _ _ _ (by omega), and_split _ _ _ (by omega), show (a + 256 * h) / 4 % 256 = a / 4 + 64 * (h % 4) by omega, show (a + 256 * h) / 4 / 256 = h / 4 by omega, b,
    show (a + 256 * h) % 256 = a by omega, show (a + 256 * h) / 256 = h by omega]
  omega
theorem t3_split {a h M : Nat} (ha : a ≤ 68) (hh : h % 16 ≤ 4) : t3 (15 + 256 * M) (a + 256 * h) = t3 15 a + 256 * t3 M h := by
  unfold t3
  have b := b0f ⟨a, by omega⟩ ⟨h % 16, by omega⟩
  simp only [] at b
  have e : a + 256 * h + (a + 256 * h) / 16 = (a + a / 16 + 16 * (h % 16)) + 256 * (h + h / 16) := by omega
  rw [e, and_split _ _ _ (by omega), show ((a + a / 16 + 16 * (h % 16)) + 256 * (h + h / 16)) % 256 = a + a / 16 + 16 * (h % 16) by omega, show ((a + a / 16 + 16 * (h % 16)) + 256 * (h + h / 16)) / 256 = h + h / 16 by omega, b]
theorem byte1 : ∀ a : Fin 256, t1 85 a.val < 256 ∧ t2 51 (t1 85 a.val) ≤ 68 ∧ t2 51 (t1 85 a.val) % 16 ≤ 4 ∧ t3 15 (t2 51 (t1 85 a.val)) = cntB (Nat.testBit a.val) 8 := by decide +kernel
theorem cnt_split {p : Nat → Bool} {n : Nat} : ∀ k, cntB p (n + k) = cntB p n + cntB (fun i => p (n + i)) k
  | 0 => rfl
  | k + 1 => by
    show cntB p (n + k + 1) = _
    simp only [cntB]
    rw [cnt_split k]
    omega
theorem cnt_byte (m : Nat) (k : Nat) : cntB m.testBit (8 + k) = cntB (m % 256).testBit 8 + cntB (m / 256).testBit k := by
  rw [cnt_split]
  have e1 : cntB m.testBit 8 = cntB (m % 256).testBit 8 := cntB_congr (fun i hi => by
    rw [show (256 : Nat) = 2 ^ 8 by decide, Nat.testBit_mod_two_pow]
    simp [hi])
  have e2 : cntB (fun i => m.testBit (8 + i)) k = cntB (m / 256).testBit k := cntB_congr (fun i hi => by
    rw [show (256 : Nat) = 2 ^ 8 by decide, Nat.testBit_div_two_pow]
    rw [Nat.add_comm])
  rw [e1, e2]
theorem popc {m : Nat} (hm : m < 2 ^ 24) : t3 252645135 (t2 858993459 (t1 1431655765 m)) = cntB (m % 256).testBit 8 + 256 * cntB (m / 256 % 256).testBit 8 + 65536 * cntB (m / 65536).testBit 8 := by
  obtain ⟨a, b, c, ha, hb, hc, e⟩ : ∃ a b c, a < 256 ∧ b < 256 ∧ c < 256 ∧ m = a + 256 * (b + 256 * (c + 256 * 0)) := ⟨m % 256, m / 256 % 256, m / 65536, by omega, by omega, by omega, by omega⟩
  have ea : m % 256 = a := by omega
  have eb : m / 256 % 256 = b := by omega
  have ec : m / 65536 = c := by omega
  have ⟨a1, a2, a3, a4⟩ := byte1 ⟨a, ha⟩
  have ⟨b1, b2, b3, b4⟩ := byte1 ⟨b, hb⟩
  have ⟨c1', c2', c3', c4'⟩ := byte1 ⟨c, hc⟩
  simp only [] at a1 a2 a3 a4 b1 b2 b3 b4 c1' c2' c3' c4'
  have z1 : t1 85 0 = 0 := by decide
  have z2 : t2 51 0 = 0 := by decide
  have z3 : t3 15 0 = 0 := by decide
  rw [ea, eb, ec, e, show (1431655765 : Nat) = 85 + 256 * (85 + 256 * (85 + 256 * 85)) by decide, show (858993459 : Nat) = 51 + 256 * (51 + 256 * (51 + 256 * 51)) by decide, show (252645135 : Nat) = 15 + 256 * (15 + 256 * (15 + 256 * 15)) by decide]
  rw [t1_split ha, t1_split hb, t1_split hc, z1]
  rw [t2_split a1, t2_split b1, t2_split c1', z2]
  have q2 : (t2 51 (t1 85 c) + 256 * 0) % 16 ≤ 4 := by omega
  have q1 : (t2 51 (t1 85 b) + 256 * (t2 51 (t1 85 c) + 256 * 0)) % 16 ≤ 4 := by omega
  rw [t3_split a2 q1, t3_split b2 q2, t3_split c2' (by decide), z3, a4, b4, c4']
  omega
theorem ushN {m k : Nat} (hm : m < 2 ^ 31) (s : Int32) (hs : ((s.toUInt32 &&& Int32.toUInt32 31).toBitVec % 32).toNat = k) : ush (nI m) s = nI (m / 2 ^ k) := pk_ushrN (by omega) s k hs
theorem bitCnt_n {m : Nat} (hm : m < 2 ^ 24) : bitCnt (nI m) = nI (cntB m.testBit 24) := by
  have s1 : ush (nI m) 1 = nI (m / 2) := ushN (k := 1) (by omega) 1 (by decide +kernel)
  have l1 : (m / 2) &&& 1431655765 ≤ m := Nat.le_trans Nat.and_le_left (Nat.div_le_self _ _)
  have r1 : bc1 (nI m) = nI (t1 1431655765 m) := by
    unfold bc1 t1
    rw [s1, show (1431655765 : Int32) = nI 1431655765 from rfl, nI_and (by omega) (by omega), pk_sub l1]
  have q1 : t1 1431655765 m ≤ m := Nat.sub_le _ _
  generalize hx : t1 1431655765 m = x at r1 q1
  have s2 : ush (nI x) 2 = nI (x / 4) := ushN (k := 2) (by omega) 2 (by decide +kernel)
  have l2 : x &&& 858993459 ≤ x := Nat.and_le_left
  have l3 : (x / 4) &&& 858993459 ≤ x / 4 := Nat.and_le_left
  have r2 : bc2 (nI x) = nI (t2 858993459 x) := by
    unfold bc2 t2
    rw [s2, show (858993459 : Int32) = nI 858993459 from rfl, nI_and (by omega) (by omega), nI_and (by omega) (by omega), nI_add]
  have q2 : t2 858993459 x ≤ x + x / 4 := Nat.add_le_add l2 l3
  generalize hy : t2 858993459 x = y at r2 q2
  have s3 : ush (nI y) 4 = nI (y / 16) := ushN (k := 4) (by omega) 4 (by decide +kernel)
  have r3 : bc3 (nI y) = nI (t3 252645135 y) := by
    unfold bc3 t3
    rw [s3, show (252645135 : Int32) = nI 252645135 from rfl, nI_add, nI_and (by omega) (by omega)]
  have hz : t3 252645135 y = cntB (m % 256).testBit 8 + 256 * cntB (m / 256 % 256).testBit 8 + 65536 * cntB (m / 65536).testBit 8 := by rw [← hy, ← hx]; exact popc hm
  have pa := cntB_le (m % 256).testBit 8
  have pb := cntB_le (m / 256 % 256).testBit 8
  have pc := cntB_le (m / 65536).testBit 8
  have tot : cntB m.testBit 24 = cntB (m % 256).testBit 8 + cntB (m / 256 % 256).testBit 8 + cntB (m / 65536).testBit 8 := by
    have e1 := cnt_byte m 16
    have e2 := cnt_byte (m / 256) 8
    have e3 : m / 256 / 256 = m / 65536 := by omega
    rw [e3] at e2
    show cntB m.testBit (8 + 16) = _
    rw [e1]
    show _ + cntB (m / 256).testBit (8 + 8) = _
    rw [e2]
    omega
  generalize cntB (m % 256).testBit 8 = A at hz tot pa
  generalize cntB (m / 256 % 256).testBit 8 = B at hz tot pb
  generalize cntB (m / 65536).testBit 8 = C at hz tot pc
  have s4 : ush (nI (A + 256 * B + 65536 * C)) 8 = nI ((A + 256 * B + 65536 * C) / 256) := ushN (k := 8) (by omega) 8 (by decide +kernel)
  have r4 : bc4 (nI (A + 256 * B + 65536 * C)) = nI ((A + B) + 256 * (B + C) + 65536 * C) := by
    unfold bc4
    rw [s4, nI_add]
    congr 1
    omega
  have s5 : ush (nI ((A + B) + 256 * (B + C) + 65536 * C)) 16 = nI (((A + B) + 256 * (B + C) + 65536 * C) / 65536) := ushN (k := 16) (by omega) 16 (by decide +kernel)
  have r5 : bc5 (nI ((A + B) + 256 * (B + C) + 65536 * C)) = nI ((A + B + C) + 256 * (B + C) + 65536 * C) := by
    unfold bc5
    rw [s5, nI_add]
    congr 1
    omega
  unfold bitCnt
  rw [r1, r2, r3, hz, r4, r5, pk_andN (by omega) 6 (by decide +kernel), tot]
  congr 1
  omega
def smT (X Y : Nat → Nat) (N m : Nat) : Nat → Nat := smB (fP (KK X Y N)) (fQ (KK X Y N)) m
def AA (X Y : Nat → Nat) (N : Nat) : Nat → Nat := fun j => KK X Y N j / 1024
def szB (X Y : Nat → Nat) (N z : Nat) : Nat → Nat := smT X Y N (jwB (AA X Y N) (N - 1) z)
theorem smT_part {X Y : Nat → Nat} {N m : Nat} (hN : N ≤ 24) (hm : m ≤ N - 1) : PART N (smT X Y N m) := sm_part m (fun i hi => KK_lt hN (by omega))
theorem szB_part {X Y : Nat → Nat} {N z : Nat} (hN : N ≤ 24) : PART N (szB X Y N z) := smT_part hN (jwB_le _ _ _)
theorem part_24 {N : Nat} {s : Nat → Nat} (hN : N ≤ 24) (h : PART N s) {p : Nat} (hp : p < N) : s p < 2 ^ 24 ∧ s p ≠ 0 := by
  have ⟨a, b, _⟩ := h p hp
  exact ⟨Nat.lt_of_lt_of_le b (Nat.pow_le_pow_right (by omega) hN), bit_ne0 a⟩
theorem tr2_A {X Y : Nat → Nat} {N : Nat} (hN : N ≤ 24) (hI : IN N X Y) {aparts fs firsts ja os parts pa roots seconds : Nat → Int32} {pairs : Nat → Int64} (h : TR2 X Y N aparts fs firsts ja os parts pa roots seconds pairs) :
    ∀ j, j < N - 1 → aparts j = nI (AA X Y N j) ∧ AA X Y N j < 4194304 := fun j hj => ⟨(h.1 j hj).1, by have := isK_lt hN hI (KK_isK (X := X) (Y := Y) hN hj); unfold AA; omega⟩
theorem szB_cnt {X Y : Nat → Nat} {N z : Nat} (hN : N ≤ 24) : cntB (hdB (szB X Y N z)) N = N - jwB (AA X Y N) (N - 1) z := (tree_parts hN (jwB_le _ _ _)).1
/-- an int is a zoom, or it isn't -/
theorem zm_or (a : Int32) : (∃ z, z ≤ 10 ∧ a = nI z ∧ 0 ≤ a.toInt ∧ a.toInt ≤ 10) ∨ ¬ (0 ≤ a.toInt ∧ a.toInt ≤ 10) := by
  by_cases h : 0 ≤ a.toInt ∧ a.toInt ≤ 10
  · exact Or.inl ⟨a.toInt.toNat, by omega, tI_nI h.1, h.1, h.2⟩
  · exact Or.inr h
theorem groups8 {F N z : Nat} {X Y : Nat → Nat} {aparts : Nat → Int32} (hF : 1000 ≤ F) (hN : N ≤ 24) (hz : z ≤ 10) (h : ∀ j, j < N - 1 → aparts j = nI (AA X Y N j) ∧ AA X Y N j < 4194304) : mX8_groups F (nI z) (nI (N - 1)) (nI N) aparts = some (nI (N - jwB (AA X Y N) (N - 1) z)) := by
  have w := within2 (F := F) hF (show N - 1 ≤ 24 by omega) hz h
  have hl := jwB_le (AA X Y N) (N - 1) z
  unfold mX8_groups
  rw [isZoom8, tI_n (by omega), decide_eq_true (by omega), Option.bind_some, if_neg (by rw [k0T]; exact id), w, Option.bind_some, pk_sub (by omega)]
theorem ja_lt {P Q : Nat → Nat} {i k : Nat} : ∀ {T}, jaB P Q T i = some k → k < T
  | 0, h => by cases h
  | T + 1, h => by
    simp only [jaB] at h
    split at h
    · cases h; omega
    · split at h
      · cases h
      · have := ja_lt h; omega
def lsV (X Y W : Nat → Nat) (N m r : Nat) : Option Nat → Int32
  | none => 0
  | some k => nI (wtB W m N) * (nI (rt (AA X Y N k)) - nI r)
def lsJ (X Y W : Nat → Nat) (N j : Nat) : Int32 := lsV X Y W N (pmB (fP (KK X Y N)) (fQ (KK X Y N)) j) (rt (AA X Y N j)) (jaB (fP (KK X Y N)) (fQ (KK X Y N)) (N - 1) j)
theorem till2 {F N m r k : Nat} {x : Int32} {X Y W : Nat → Nat} {parts ws roots : Nat → Int32} (hF : 1000 ≤ F) (hN : N ≤ 24) (hm : m < 2 ^ 31) (hs : mX2_setOf F x parts = some (nI m)) (hw : ∀ i, i < N → ws i = nI (W i)) (hr : ∀ j, j < N - 1 → roots j = nI (rt (AA X Y N j))) (hk : k < N - 1) :
    mX2_lastsOf_j40 F x (nI N) parts ws roots (nI k) (nI r) = some (lsV X Y W N m r (some k)) := by
  unfold mX2_lastsOf_j40
  rw [hs, Option.bind_some, weight4 hF hN hm hw, Option.bind_some, rdI_n (by omega) (by omega), Option.bind_some, hr k hk]
  rfl
theorem jo2J (F : Nat) {j : Nat} (hj : j < 24) : mX2_joinOf F (nI (100 + j)) = some (nI j) := by
  have e : nI (100 + j) - 100 = nI j := by rw [c100, pk_sub (by omega)]; congr 1; omega
  unfold mX2_joinOf
  rw [if_neg (show ¬ nI (100 + j) < (100 : Int32) by rw [c100, nI_ltE (by omega) (by omega)]; omega), if_neg (show ¬ (124 : Int32) ≤ nI (100 + j) by rw [c124, nI_leE (by omega) (by omega)]; omega), e]
theorem lastsJ2 {F N j : Nat} {X Y W : Nat → Nat} {aparts fs firsts ja os parts pa roots seconds ws : Nat → Int32} {pairs : Nat → Int64} (hF : 1000 ≤ F) (hN : N ≤ 24) (h : TR2 X Y N aparts fs firsts ja os parts pa roots seconds pairs) (hw : ∀ i, i < N → ws i = nI (W i)) (hj : j < N - 1) :
    mX2_lastsOf F (nI (100 + j)) (nI (N - 1)) (nI N) ja parts ws pa roots = some (lsJ X Y W N j) := by
  have a := h.1 j hj
  have jo := jo2J F (j := j) (by omega)
  have jn : ¬ nI j = (-1 : Int32) := by rw [nI_m1 (by omega)]; exact id
  have hs : mX2_setOf F (nI (100 + j)) parts = some (nI (pmB (fP (KK X Y N)) (fQ (KK X Y N)) j)) := by
    unfold mX2_setOf
    rw [jo, Option.bind_some, if_neg jn, rdI_n (by omega) (by omega), Option.bind_some, a.2.2.2.2.1]
  have hA : mX2_joinAbove F (nI (100 + j)) ja pa = some (oI (jaB (fP (KK X Y N)) (fQ (KK X Y N)) (N - 1) j)) := by
    unfold mX2_joinAbove
    rw [jo, Option.bind_some, if_neg jn, rdI_n (by omega) (by omega), Option.bind_some, h.2.1 j hj]
  have hl : ∀ k, jaB (fP (KK X Y N)) (fQ (KK X Y N)) (N - 1) j = some k → k < N - 1 := fun k hk => ja_lt hk
  unfold mX2_lastsOf lsJ
  rw [jo, Option.bind_some, hA, Option.bind_some]
  cases o : jaB (fP (KK X Y N)) (fQ (KK X Y N)) (N - 1) j with
  | none => rw [show oI none = -1 from rfl, if_pos (show (-1 : Int32) < 0 by rw [m1_lt0]; trivial)]; rfl
  | some k =>
    have hk := hl k o
    rw [show oI (some k) = nI k from rfl, if_neg (show ¬ nI k < 0 by rw [nI_lt0 (by omega)]; exact id), if_pos (show nI k < nI (N - 1) by rw [nI_ltE (by omega) (by omega)]; omega), if_neg jn, rdI_n (by omega) (by omega), Option.bind_some, a.2.2.2.2.2.1]
    exact till2 hF hN (lt31 (tr_pm hN hj) hN) hs hw (fun i hi => (h.1 i hi).2.2.2.2.2.1) hk
theorem allN {N : Nat} (hN : N ≤ 24) : ((1 : Int32) <<< (nI N &&& 31)) - 1 = nI (2 ^ N - 1) := by
  have : 1 ≤ 2 ^ N := Nat.one_le_two_pow
  rw [nI_bit (by omega), nI_s1 this]
def gaB (X Y : Nat → Nat) (N k : Nat) : Nat := sumB (fun z => N - jwB (AA X Y N) (N - 1) z) k
theorem all8 {F N : Nat} {X Y : Nat → Nat} {aparts : Nat → Int32} (hF : 1000 ≤ F) (hN : N ≤ 24) (h : ∀ j, j < N - 1 → aparts j = nI (AA X Y N j) ∧ AA X Y N j < 4194304) : mX8_groupsOfAllZooms F (nI (N - 1)) (nI N) aparts = some (nI (gaB X Y N 11)) := by
  unfold mX8_groupsOfAllZooms
  refine lp (fun k => (nI (gaB X Y N k), nI k)) 0 11 _ (by omega) rfl (fun k _ hk => ?_) ?_ (by omega)
  · have g := groups8 (F := F) (z := k) hF hN (by omega) h
    unfold mX8_groupsOfAllZooms_b4
    simp only []
    rw [if_neg (by rw [c10, nI_ltE (by omega) (by omega)]; omega), g, Option.bind_some, Option.bind_some, nI_add, nI_1]
    rfl
  · unfold mX8_groupsOfAllZooms_b4
    simp only []
    rw [if_pos (by rw [c10, nI_ltE (by omega) (by omega)]; omega)]
def ixB (s : Nat → Nat) (p : Nat) : Nat := cntB (hdB s) p
def ctB (X W : Nat → Nat) (m N : Nat) : Nat := sumB (fun i => if m.testBit i = true then X i * W i else 0) N / wtB W m N
def SCALE (N : Nat) (s X Y W : Nat → Nat) (cnt : Int32) (groupAt sets weights xs ys : Nat → Int32) : Prop :=
  cnt = nI (cntB (hdB s) N) ∧ (∀ p, p < N → hdB s p = true → sets (ixB s p) = nI (s p) ∧ weights (ixB s p) = nI (wtB W (s p) N) ∧ xs (ixB s p) = nI (ctB X W (s p) N) ∧ ys (ixB s p) = nI (ctB Y W (s p) N)) ∧
  ∀ p, p < N → groupAt p = nI (ixB s (lo (s p)))
theorem sxB_le {X W : Nat → Nat} {m N : Nat} (hN : N ≤ 24) (hX : ∀ i, i < N → X i < 1024) (hW : ∀ i, i < N → W i ≤ 99) : sumB (fun i => if m.testBit i = true then X i * W i else 0) N ≤ 2430648 := by
  have : sumB (fun i => if m.testBit i = true then X i * W i else 0) N ≤ N * (1023 * 99) := sumB_le (fun k hk => by
    split
    · have a := hX k hk
      exact Nat.mul_le_mul (by omega) (hW k hk)
    · omega)
  omega
theorem wtB_pos {W : Nat → Nat} {m p : Nat} (hm : m.testBit p = true) (hW : 1 ≤ W p) : ∀ N, p < N → 1 ≤ wtB W m N
  | 0, h => by omega
  | N + 1, h => by
    unfold wtB
    simp only [sumB]
    rcases Nat.lt_succ_iff_lt_or_eq.mp h with g | g
    · have := wtB_pos hm hW N g
      unfold wtB at this
      omega
    · subst g
      rw [if_pos hm]
      omega
theorem sumB_leN {f : Nat → Nat} {m n : Nat} (h : m ≤ n) : sumB f m ≤ sumB f n := by
  induction n with
  | zero => rw [show m = 0 by omega]; exact Nat.le_refl _
  | succ n ih =>
    rcases Nat.eq_or_lt_of_le h with e | e
    · rw [e]; exact Nat.le_refl _
    · have := ih (by omega)
      simp only [sumB]
      omega
theorem gather5 {F N g m : Nat} {X Y W : Nat → Nat} {ws pxs pys sets : Nat → Int32} (hF : 1000 ≤ F) (gd : GOOD N X Y W) (hP : ROWS N X Y W ws pxs pys) (hm : m < 2 ^ 31) (hg : g < 24) (hs : sets g = nI m) (hw : 1 ≤ wtB W m N) (groupAt weights xs ys : Nat → Int32) :
    ∃ ga, mX5_gather F (nI g) (nI N) groupAt sets weights xs ys ws pxs pys = some (ga, upd weights g (nI (wtB W m N)), upd xs g (nI (ctB X W m N)), upd ys g (nI (ctB Y W m N))) ∧
      ∀ p, p < N → ga p = if m.testBit p = true then nI g else groupAt p := by
  have hN := gd.1
  have hX : ∀ i, i < N → X i < 1024 := fun i hi => (gd.2.1 i hi).1
  have hY : ∀ i, i < N → Y i < 1024 := fun i hi => (gd.2.1 i hi).2
  have hW : ∀ i, i < N → W i ≤ 99 := fun i hi => (gd.2.2.1 i hi).2
  have bx := sxB_le (m := m) hN hX hW
  have bY := sxB_le (m := m) hN hY hW
  have bw := wtB_le (m := m) hN hW
  obtain ⟨ga, e, gg⟩ := lpI (body := fun s11 : Int32 × Int32 × Int32 × Int32 × (Nat → Int32) => mX5_gather_b11 F (nI g) (nI N) sets ws pxs pys s11.1 s11.2.1 s11.2.2.1 s11.2.2.2.1 s11.2.2.2.2) (F := F)
    (fun k (t : Nat → Int32) => (nI (wtB W m k), nI (sumB (fun i => if m.testBit i = true then X i * W i else 0) k), nI (sumB (fun i => if m.testBit i = true then Y i * W i else 0) k), nI k, t))
    (fun k t => ∀ p, p < N → t p = if p < k then (if m.testBit p = true then nI g else groupAt p) else groupAt p) 0 N
    (fun t => (nI (wtB W m N), nI (sumB (fun i => if m.testBit i = true then X i * W i else 0) N), nI (sumB (fun i => if m.testBit i = true then Y i * W i else 0) N), t)) groupAt (by omega) (s0 := ((0 : Int32), (0 : Int32), (0 : Int32), (0 : Int32), groupAt)) rfl
    (fun p hp => by rw [if_neg (by omega)]) (fun k t _ hk hI2 => by
      have ⟨p1, p2, p3⟩ := hP k hk
      have hle : ¬ nI N ≤ nI k := by rw [nI_leE (by omega) (by omega)]; omega
      cases hb : m.testBit k with
      | true =>
        refine ⟨upd t k (nI g), ?_, fun p hp => ?_⟩
        · unfold mX5_gather_b11
          simp only []
          rw [if_neg hle, rdI_n (by omega) (by omega), Option.bind_some, hs, has6b F hm (by omega), Option.bind_some, hb, if_neg (by rw [k0T]; exact id), wrI_n (by omega) (by omega), Option.bind_some, rdI_n (by omega) (by omega), Option.bind_some, p1, Option.bind_some, rdI_n (by omega) (by omega), Option.bind_some, p2, Option.bind_some,
            rdI_n (by omega) (by omega), p3]
          simp only [Option.bind_some, nI_add, pk_mul, nI_1, wtB, sumB, hb, if_true]
        · by_cases e2 : p = k
          · subst e2; rw [pk_us, if_pos (by omega), if_pos hb]
          · rw [pk_un e2, hI2 p hp]
            by_cases e3 : p < k
            · rw [if_pos e3, if_pos (show p < k + 1 by omega)]
            · rw [if_neg e3, if_neg (show ¬ p < k + 1 by omega)]
      | false =>
        refine ⟨t, ?_, fun p hp => ?_⟩
        · unfold mX5_gather_b11
          simp only []
          rw [if_neg hle, rdI_n (by omega) (by omega), Option.bind_some, hs, has6b F hm (by omega), Option.bind_some, hb, if_pos (by rw [k0F]; trivial)]
          simp [nI_1, wtB, sumB, hb]
        · rw [hI2 p hp]
          by_cases e2 : p = k
          · subst e2; rw [if_neg (by omega), if_pos (by omega), if_neg (by rw [hb]; decide)]
          · by_cases e3 : p < k
            · rw [if_pos e3, if_pos (show p < k + 1 by omega)]
            · rw [if_neg e3, if_neg (show ¬ p < k + 1 by omega)])
    (fun t hI2 => by
      unfold mX5_gather_b11
      simp only []
      rw [if_pos (by rw [nI_leE (by omega) (by omega)]; omega)]) (by omega)
  refine ⟨ga, ?_, fun p hp => by have := gg p hp; rw [if_pos hp] at this; exact this⟩
  have w0 : ¬ nI (wtB W m N) ≤ 0 := by rw [nI_le0 (by omega)]; omega
  have w1 : ¬ nI (wtB W m N) = 0 := by rw [nI_eq0 (by omega)]; omega
  unfold mX5_gather ctB
  rw [e, Option.bind_some]
  simp only []
  rw [wrI_n (by omega) (by omega), Option.bind_some, if_neg w0, if_neg w1, wrI_n (by omega) (by omega), Option.bind_some, if_neg w0, if_neg w1, wrI_n (by omega) (by omega), Option.bind_some, pk_div (by omega) (by omega) (by omega), pk_div (by omega) (by omega) (by omega)]
theorem hd_lo {N : Nat} {s : Nat → Nat} (hN : N ≤ 24) (hS : PART N s) {q : Nat} (hq : q < N) : hdB s (lo (s q)) = true := by
  have l := lo_part hN hS hq
  unfold hdB
  rw [l.2.2.1]
  exact decide_eq_true rfl
theorem hd_in {N : Nat} {s : Nat → Nat} (hN : N ≤ 24) (hS : PART N s) {p q : Nat} (hp : p < N) (hq : q < N) (h : hdB s p = true) : (s p).testBit q = decide (lo (s q) = p) := by
  have hl : lo (s p) = p := of_decide_eq_true h
  by_cases e : lo (s q) = p
  · rw [decide_eq_true e]
    have l := lo_part hN hS hq
    rw [e] at l
    rw [l.2.2.1]
    exact (hS q hq).1
  · rw [decide_eq_false e]
    cases g : (s p).testBit q with
    | false => rfl
    | true =>
      have := (hS p hp).2.2 q hq g
      rw [this] at e
      exact absurd hl e
def seenB (s : Nat → Nat) (N i : Nat) : Nat := mkB (fun q => decide (lo (s q) < i)) N
theorem seen_succ {N i : Nat} {s : Nat → Nat} (hN : N ≤ 24) (hS : PART N s) (hi : i < N) : seenB s N (i + 1) = if hdB s i = true then seenB s N i ||| s i else seenB s N i := by
  unfold seenB
  apply mask_ext
  intro q
  by_cases hq : q < N
  · have l := hd_in hN hS hi hq
    cases h : hdB s i with
    | true =>
      rw [if_pos rfl, or_bit, mkB_bit, mkB_bit, l h]
      simp only [hq, decide_true, Bool.true_and]
      by_cases e : lo (s q) < i
      · rw [decide_eq_true e, decide_eq_true (show lo (s q) < i + 1 by omega)]; rfl
      · by_cases e2 : lo (s q) = i
        · rw [decide_eq_true e2, decide_eq_true (show lo (s q) < i + 1 by omega)]; simp
        · rw [decide_eq_false e, decide_eq_false e2, decide_eq_false (show ¬ lo (s q) < i + 1 by omega)]; rfl
    | false =>
      rw [if_neg (by decide), mkB_bit, mkB_bit]
      simp only [hq, decide_true, Bool.true_and]
      have ne : lo (s q) ≠ i := fun e => by have := hd_lo hN hS hq; rw [e, h] at this; cases this
      exact decide_eq_decide.mpr (by omega)
  · have z : ∀ j, (mkB (fun q => decide (lo (s q) < j)) N).testBit q = false := fun j => by rw [mkB_bit]; simp [hq]
    split
    · rw [or_bit, z, z]
      cases g : (s i).testBit q with
      | false => rfl
      | true => exact absurd (bit_lt (hS i hi).2.1 g) hq
    · rw [z, z]
theorem ix_lt {s : Nat → Nat} {p : Nat} : ixB s p ≤ p := cntB_le _ _
theorem ix_succ (s : Nat → Nat) (p : Nat) : ixB s (p + 1) = ixB s p + (if hdB s p = true then 1 else 0) := rfl
theorem ix_mono {s : Nat → Nat} {p q : Nat} (h : p ≤ q) : ixB s p ≤ ixB s q := by
  induction q with
  | zero => rw [show p = 0 by omega]; exact Nat.le_refl _
  | succ q ih =>
    rcases Nat.eq_or_lt_of_le h with e | e
    · rw [e]; exact Nat.le_refl _
    · rw [ix_succ]
      have := ih (by omega)
      omega
theorem ix_strict {s : Nat → Nat} {p q : Nat} (hp : hdB s p = true) (h : p < q) : ixB s p < ixB s q := by
  have := ix_mono (s := s) (show p + 1 ≤ q by omega)
  rw [ix_succ, if_pos hp] at this
  omega
def cutI (N : Nat) (s X Y W : Nat → Nat) (i : Nat) (t : (Nat → Int32) × (Nat → Int32) × (Nat → Int32) × (Nat → Int32) × (Nat → Int32)) : Prop :=
  (∀ p, p < i → hdB s p = true → t.2.1 (ixB s p) = nI (s p) ∧ t.2.2.1 (ixB s p) = nI (wtB W (s p) N) ∧ t.2.2.2.1 (ixB s p) = nI (ctB X W (s p) N) ∧ t.2.2.2.2 (ixB s p) = nI (ctB Y W (s p) N)) ∧
  ∀ p, p < N → lo (s p) < i → t.1 p = nI (ixB s (lo (s p)))
theorem cut5 {F N m : Nat} {X Y W : Nat → Nat} {aparts fs firsts ja os parts pa roots seconds ws pxs pys : Nat → Int32} {pairs : Nat → Int64} (hF : 1000 ≤ F) (gd : GOOD N X Y W) (hP : ROWS N X Y W ws pxs pys) (h : TR2 X Y N aparts fs firsts ja os parts pa roots seconds pairs) (hm : m ≤ N - 1) (groupAt sets weights xs ys : Nat → Int32) :
    ∃ r, loop (fun s17 : Int32 × Int32 × Int32 × (Nat → Int32) × (Nat → Int32) × (Nat → Int32) × (Nat → Int32) × (Nat → Int32) => mX5_cut_b17 F (nI (N - 1)) (nI N) parts ws pxs pys (nI m) s17.1 s17.2.1 s17.2.2.1 s17.2.2.2.1 s17.2.2.2.2.1 s17.2.2.2.2.2.1 s17.2.2.2.2.2.2.1 s17.2.2.2.2.2.2.2) F
        ((0 : Int32), (0 : Int32), (0 : Int32), groupAt, sets, weights, xs, ys) = some r ∧ SCALE N (smT X Y N m) X Y W r.1 r.2.1 r.2.2.1 r.2.2.2.1 r.2.2.2.2.1 r.2.2.2.2.2 := by
  have hN := gd.1
  have hS := smT_part (X := X) (Y := Y) hN hm
  have hpo : ∀ p, p < N → mX2_partOf F (nI p) (nI m) (nI (N - 1)) parts = some (nI (smT X Y N m p)) := fun p hp => partOf2 hF (by omega) hm (by omega) (tr2_pm hN h)
  generalize smT X Y N m = s at hS hpo ⊢
  have sn0 : seenB s N 0 = 0 := by
    apply mask_ext
    intro q
    unfold seenB
    rw [mkB_bit]
    simp
  obtain ⟨t, e, g⟩ := lpI (body := fun s17 : Int32 × Int32 × Int32 × (Nat → Int32) × (Nat → Int32) × (Nat → Int32) × (Nat → Int32) × (Nat → Int32) => mX5_cut_b17 F (nI (N - 1)) (nI N) parts ws pxs pys (nI m) s17.1 s17.2.1 s17.2.2.1 s17.2.2.2.1 s17.2.2.2.2.1 s17.2.2.2.2.2.1 s17.2.2.2.2.2.2.1 s17.2.2.2.2.2.2.2) (F := F)
    (fun i (t : (Nat → Int32) × (Nat → Int32) × (Nat → Int32) × (Nat → Int32) × (Nat → Int32)) => (nI (seenB s N i), nI i, nI (ixB s i), t)) (cutI N s X Y W) 0 N (fun t => (nI (ixB s N), t)) (groupAt, sets, weights, xs, ys) (by omega)
    (s0 := ((0 : Int32), (0 : Int32), (0 : Int32), groupAt, sets, weights, xs, ys)) (by show _ = (nI (seenB s N 0), nI 0, nI (ixB s 0), groupAt, sets, weights, xs, ys); rw [sn0]; rfl)
    ⟨fun p hp => by omega, fun p _ hp => by omega⟩ (fun i t _ hi hI2 => by
      have hle : ¬ nI N ≤ nI i := by rw [nI_leE (by omega) (by omega)]; omega
      have sl : seenB s N i < 2 ^ 31 := mk_lt31 _ (by omega)
      have sb : (seenB s N i).testBit i = decide (lo (s i) < i) := by unfold seenB; rw [mkB_bit]; simp [hi]
      have l := lo_part hN hS hi
      have ixl := ix_lt (s := s) (p := i)
      have ⟨q24, q0⟩ := part_24 hN hS hi
      cases hd : hdB s i with
      | true =>
        have el : lo (s i) = i := of_decide_eq_true hd
        rw [el, decide_eq_false (by omega)] at sb
        obtain ⟨ga, eg, gg⟩ := gather5 (F := F) (g := ixB s i) (m := s i) (sets := upd t.2.1 (ixB s i) (nI (s i))) hF gd hP (by omega) (by omega) pk_us (wtB_pos (hS i hi).1 (gd.2.2.1 i hi).1 N hi) t.1 t.2.2.1 t.2.2.2.1 t.2.2.2.2
        refine ⟨(ga, upd t.2.1 (ixB s i) (nI (s i)), upd t.2.2.1 (ixB s i) (nI (wtB W (s i) N)), upd t.2.2.2.1 (ixB s i) (nI (ctB X W (s i) N)), upd t.2.2.2.2 (ixB s i) (nI (ctB Y W (s i) N))), ?_, fun p hp hdp => ?_, fun p hp hlp => ?_⟩
        · unfold mX5_cut_b17
          simp only []
          rw [if_neg hle, has6b F sl (by omega), Option.bind_some, sb, if_pos (by rw [k0F]; trivial), hpo i hi, Option.bind_some, wrI_n (by omega) (by omega), Option.bind_some, rdI_n (by omega) (by omega), Option.bind_some, pk_us, nI_or sl (by omega), Option.bind_some, eg, Option.bind_some, nI_1, nI_1, Option.bind_some,
            seen_succ hN hS hi, if_pos hd, ix_succ, if_pos hd]
        · simp only []
          by_cases e2 : p = i
          · subst e2; simp only [pk_us, and_self]
          · have ne : ixB s p ≠ ixB s i := by have := ix_strict hdp (show p < i by omega); omega
            simp only [pk_un ne]
            exact hI2.1 p (by omega) hdp
        · simp only []
          rw [gg p hp, hd_in hN hS hi hp hd]
          by_cases e2 : lo (s p) = i
          · rw [if_pos (decide_eq_true e2), e2]
          · rw [if_neg (by rw [decide_eq_false e2]; decide)]
            exact hI2.2 p hp (by omega)
      | false =>
        have el : lo (s i) ≠ i := of_decide_eq_false hd
        rw [decide_eq_true (by omega)] at sb
        refine ⟨t, ?_, fun p hp hdp => ?_, fun p hp hlp => ?_⟩
        · unfold mX5_cut_b17
          simp only []
          rw [if_neg hle, has6b F sl (by omega), Option.bind_some, sb, if_neg (by rw [k0T]; exact id), nI_1, seen_succ hN hS hi, if_neg (by rw [hd]; decide), ix_succ, if_neg (by rw [hd]; decide)]
          rfl
        · have ne : p ≠ i := fun e2 => by rw [e2, hd] at hdp; cases hdp
          exact hI2.1 p (by omega) hdp
        · have ne : lo (s p) ≠ i := fun e2 => by have := hd_lo hN hS hp; rw [e2, hd] at this; cases this
          exact hI2.2 p hp (by omega))
    (fun t hI2 => by
      unfold mX5_cut_b17
      simp only []
      rw [if_pos (by rw [nI_leE (by omega) (by omega)]; omega)]) (by omega)
  exact ⟨_, e, rfl, fun p hp hd => g.1 p hp hd, fun p hp => g.2 p hp (lo_part hN hS hp).1⟩
theorem cutZ {F N z : Nat} {X Y W : Nat → Nat} {aparts fs firsts ja os parts pa roots seconds ws pxs pys : Nat → Int32} {pairs : Nat → Int64} {oc pc : Int32} (hF : 1000 ≤ F) (gd : GOOD N X Y W) (hP : ROWS N X Y W ws pxs pys) (h : TR2 X Y N aparts fs firsts ja os parts pa roots seconds pairs) (hz : z ≤ 10) (hoc : oc = nI (N - 1)) (hpc : pc = nI N) (cnt : Int32) (groupAt sets weights xs ys : Nat → Int32) :
    ∃ r, mX5_cut F (nI z) cnt oc pc groupAt sets weights xs ys aparts parts ws pxs pys = some r ∧ SCALE N (szB X Y N z) X Y W r.1 r.2.1 r.2.2.1 r.2.2.2.1 r.2.2.2.2.1 r.2.2.2.2.2 := by
  subst hoc hpc
  have hN := gd.1
  have w := within2 (F := F) hF (show N - 1 ≤ 24 by omega) hz (tr2_A hN gd.2.1 h)
  obtain ⟨r, e, g⟩ := cut5 (F := F) hF gd hP h (jwB_le (AA X Y N) (N - 1) z) groupAt sets weights xs ys
  refine ⟨r, ?_, g⟩
  unfold mX5_cut
  rw [w, Option.bind_some, e]
/-- the heads by their numbers -/
theorem hd_ex {s : Nat → Nat} : ∀ {N g}, g < cntB (hdB s) N → ∃ p, p < N ∧ hdB s p = true ∧ ixB s p = g
  | 0, g, h => by simp [cntB] at h
  | N + 1, g, h => by
    simp only [cntB] at h
    by_cases e : g < cntB (hdB s) N
    · obtain ⟨p, p1, p2, p3⟩ := hd_ex e
      exact ⟨p, by omega, p2, p3⟩
    · cases hd : hdB s N with
      | true =>
        rw [hd, if_pos rfl] at h
        exact ⟨N, by omega, hd, by unfold ixB; omega⟩
      | false =>
        rw [hd, if_neg (by decide)] at h
        omega
theorem hd_uniq {s : Nat → Nat} {p q : Nat} (hp : hdB s p = true) (hq : hdB s q = true) (h : ixB s p = ixB s q) : p = q := by
  rcases Nat.lt_trichotomy p q with e | e | e
  · have := ix_strict hp e; omega
  · exact e
  · have := ix_strict hq e; omega
theorem en_cnt {s : Nat → Nat} {P Q : Nat → Bool} {N : Nat} (h : ∀ p, p < N → hdB s p = true → P (ixB s p) = Q p) : ∀ k, k ≤ N → cntB P (ixB s k) = cntB (fun p => hdB s p && Q p) k
  | 0, _ => rfl
  | k + 1, hk => by
    have ih := en_cnt h k (by omega)
    show cntB P (ixB s (k + 1)) = cntB (fun p => hdB s p && Q p) k + (if (hdB s k && Q k) = true then 1 else 0)
    by_cases hd : hdB s k = true
    · rw [ix_succ, if_pos hd, show cntB P (ixB s k + 1) = cntB P (ixB s k) + (if P (ixB s k) = true then 1 else 0) from rfl, ih, h k (by omega) hd, hd, Bool.true_and]
    · rw [ix_succ, if_neg hd, Nat.add_zero, ih, Bool.not_eq_true _ |>.mp hd, Bool.false_and]
      rfl
theorem en_sum {s : Nat → Nat} {f g : Nat → Nat} {N : Nat} (h : ∀ p, p < N → hdB s p = true → f (ixB s p) = g p) : ∀ k, k ≤ N → sumB f (ixB s k) = sumB (fun p => if hdB s p = true then g p else 0) k
  | 0, _ => rfl
  | k + 1, hk => by
    have ih := en_sum h k (by omega)
    rw [ix_succ]
    simp only [sumB]
    cases hd : hdB s k with
    | true =>
      rw [if_pos rfl, if_pos rfl]
      simp only [sumB]
      rw [ih, h k (by omega) hd]
    | false => rw [if_neg (by decide), if_neg (by decide), Nat.add_zero, ih]; rfl
theorem en_fst {s : Nat → Nat} {P Q : Nat → Bool} {N : Nat} (h : ∀ p, p < N → hdB s p = true → P (ixB s p) = Q p) : fstB P (ixB s N) = (fstB (fun p => hdB s p && Q p) N).map (ixB s) := by
  cases e : fstB (fun p => hdB s p && Q p) N with
  | none =>
    have e2 := fstB_none.mp e
    refine fstB_none.mpr (fun g hg => ?_)
    obtain ⟨p, p1, p2, p3⟩ := hd_ex (s := s) (N := N) hg
    have := e2 p p1
    rw [p2, Bool.true_and] at this
    rw [← p3, h p p1 p2, this]
  | some p =>
    have ⟨p1, p2, p3⟩ := fstB_some.mp e
    have ⟨p4, p5⟩ := (Bool.and_eq_true _ _).mp p2
    refine fstB_some.mpr ⟨ix_strict p4 p1, by rw [h p p1 p4]; exact p5, fun g hg => ?_⟩
    have hg2 : g < ixB s N := Nat.lt_trans hg (ix_strict p4 p1)
    obtain ⟨q, q1, q2, q3⟩ := hd_ex (s := s) (N := N) hg2
    have hqp : q < p := by
      refine Nat.lt_of_not_le (fun l => ?_)
      have := ix_mono (s := s) l
      omega
    have := p3 q hqp
    rw [q2, Bool.true_and] at this
    rw [← q3, h q q1 q2, this]
/-- the n-th of a set of groups -/
theorem en_nth {s : Nat → Nat} {P Q : Nat → Bool} {N : Nat} (hN : N ≤ 24) (h : ∀ p, p < N → hdB s p = true → P (ixB s p) = Q p) (n : Int32) :
    fstB (fun k => (mkB P (ixB s N)).testBit k && decide (nI (cntB (mkB P (ixB s N)).testBit k) = n)) 24 = (fstB (fun p => hdB s p && Q p && decide (nI (cntB (fun p => hdB s p && Q p) p) = n)) N).map (ixB s) := by
  have hC : ixB s N ≤ 24 := Nat.le_trans ix_lt hN
  have e1 : fstB (fun k => (mkB P (ixB s N)).testBit k && decide (nI (cntB (mkB P (ixB s N)).testBit k) = n)) 24 = fstB (fun k => P k && decide (nI (cntB P k) = n)) (ixB s N) := by
    have cc : ∀ k, k ≤ ixB s N → cntB (mkB P (ixB s N)).testBit k = cntB P k := fun k hk => cntB_congr (fun i hi => by rw [mkB_bit]; simp [show i < ixB s N by omega])
    cases e : fstB (fun k => P k && decide (nI (cntB P k) = n)) (ixB s N) with
    | none =>
      have e2 := fstB_none.mp e
      refine fstB_none.mpr (fun k hk => ?_)
      by_cases g : k < ixB s N
      · have := e2 k g
        rw [mkB_bit, cc k (by omega), decide_eq_true g, Bool.true_and]
        exact this
      · rw [mkB_bit, decide_eq_false g]; rfl
    | some k =>
      have ⟨k1, k2, k3⟩ := fstB_some.mp e
      refine fstB_some.mpr ⟨by omega, ?_, fun i hi => ?_⟩
      · rw [mkB_bit, cc k (by omega), decide_eq_true k1, Bool.true_and]
        exact k2
      · have := k3 i hi
        rw [mkB_bit, cc i (by omega), decide_eq_true (show i < ixB s N by omega), Bool.true_and]
        exact this
  rw [e1, en_fst (s := s) (Q := fun p => Q p && decide (nI (cntB (fun p => hdB s p && Q p) p) = n)) (N := N) (fun p hp hd => by rw [h p hp hd, en_cnt h p (by omega)])]
  congr 1
  exact fstB_congr (fun k hk => by simp only [Bool.and_assoc])
theorem not_bv : ((-1 : Int32)).toBitVec = BitVec.allOnes 32 := by decide +kernel
theorem nI_bitv {a i : Nat} (hi : i < 32) : (nI a).toBitVec.getLsbD i = a.testBit i := by
  show (BitVec.ofNat 32 a).getLsbD i = _
  rw [BitVec.getLsbD_ofNat]
  simp [hi]
theorem sub_mask {a b : Nat} (ha : a < 2 ^ 31) : (nI a &&& (nI b ^^^ (-1 : Int32)) = 0) = (∀ i, a.testBit i = true → b.testBit i = true) := by
  apply propext
  rw [← Int32.toBitVec_inj]
  constructor
  · intro h i hi
    have hi2 : i < 31 := bit_lt ha hi
    have h2 := congrArg (fun v => BitVec.getLsbD v i) h
    simp only [Int32.toBitVec_and, Int32.toBitVec_xor, not_bv, BitVec.getLsbD_and, BitVec.getLsbD_xor, BitVec.getLsbD_allOnes, nI_bitv (show i < 32 by omega), hi] at h2
    simp [show i < 32 by omega] at h2
    exact h2
  · intro h
    apply BitVec.eq_of_getLsbD_eq
    intro i hi
    simp only [Int32.toBitVec_and, Int32.toBitVec_xor, not_bv, BitVec.getLsbD_and, BitVec.getLsbD_xor, BitVec.getLsbD_allOnes, nI_bitv hi]
    cases ga : a.testBit i with
    | false => simp
    | true => rw [h i ga]; simp [hi]
theorem jw_anti {A : Nat → Nat} {n z : Nat} : jwB A n (z + 1) ≤ jwB A n z := by
  have hr : rad (z + 1) ≤ rad z := by
    unfold rad
    exact Nat.div_le_div_left (Nat.pow_le_pow_right (by omega) (by omega)) (Nat.two_pow_pos z)
  have hr2 : rad (z + 1) * rad (z + 1) ≤ rad z * rad z := Nat.mul_le_mul hr hr
  unfold jwB
  cases e : fstB (fun j => decide (rad z * rad z < A j)) n with
  | none =>
    simp only []
    cases e2 : fstB (fun j => decide (rad (z + 1) * rad (z + 1) < A j)) n with
    | none => exact Nat.le_refl _
    | some j => exact Nat.le_of_lt (fstB_lt e2)
  | some j =>
    have ⟨j1, j2, _⟩ := fstB_some.mp e
    have j3 := of_decide_eq_true j2
    cases e2 : fstB (fun j => decide (rad (z + 1) * rad (z + 1) < A j)) n with
    | none =>
      have := of_decide_eq_false (fstB_none.mp e2 j j1)
      omega
    | some i =>
      have ⟨_, _, i3⟩ := fstB_some.mp e2
      refine Nat.le_of_not_lt (fun g => ?_)
      have := of_decide_eq_false (i3 j g)
      omega
