/-! ===== PURE 22: parts of a zoom; calls groups, part, zoom, clearest ===== -/
def smT (X Y : Nat → Nat) (N m : Nat) : Nat → Nat := smB (fP (KK X Y N)) (fQ (KK X Y N)) m
def AA (X Y : Nat → Nat) (N : Nat) : Nat → Nat := fun j => KK X Y N j / 1024
def szB (X Y : Nat → Nat) (N z : Nat) : Nat → Nat := smT X Y N (jwB (AA X Y N) (N - 1) z)
theorem smT_part {X Y : Nat → Nat} {N m : Nat} (hN : N ≤ 24) (hm : m ≤ N - 1) : PART N (smT X Y N m) := sm_part m (fun i hi => KK_lt hN (by omega))
theorem szB_part {X Y : Nat → Nat} {N z : Nat} (hN : N ≤ 24) : PART N (szB X Y N z) := smT_part hN (jwB_le _ _ _)
theorem part_24 {N : Nat} {s : Nat → Nat} (hN : N ≤ 24) (h : PART N s) {p : Nat} (hp : p < N) : s p < 2 ^ 24 ∧ s p ≠ 0 := by
  have ⟨a, b, _⟩ := h p hp
  exact ⟨Nat.lt_of_lt_of_le b (Nat.pow_le_pow_right (by omega) hN), bit_ne0 a⟩
theorem laysIn9 {F N k : Nat} {P Q : Nat → Nat} {made part : Nat → Int32} (hF : 1000 ≤ F) (hN : N ≤ 24) (hk : k < 24) (hm : pmB P Q k < 2 ^ 31) (hg : made k = nI (pmB P Q k)) (hs : ∀ p, p < N → part p = nI (smB P Q k p)) :
    ∃ t, loop (fun s34 : Int32 × (Nat → Int32) => mX9_laysParts_b34 F (nI N) made (nI k) s34.1 s34.2) F ((0 : Int32), part) = some t ∧ ∀ p, p < N → t p = nI (smB P Q (k + 1) p) := by
  refine Exists.elim (lpI (body := fun s34 : Int32 × (Nat → Int32) => mX9_laysParts_b34 F (nI N) made (nI k) s34.1 s34.2) (F := F)
    (fun i (t : Nat → Int32) => (nI i, t)) (fun i t => ∀ p, p < N → (t p = if p < i then nI (smB P Q (k + 1) p) else nI (smB P Q k p))) 0 N (fun t => t) part (by omega) (s0 := ((0 : Int32), part)) rfl
    (fun p hp => by rw [if_neg (by omega)]; exact hs p hp) (fun i t _ hi hI2 => ?_) (fun t hI2 => ?_) (by omega)) ?_
  · cases hb : (pmB P Q k).testBit i with
    | true =>
      have e4 : smB P Q (k + 1) i = pmB P Q k := if_pos hb
      refine ⟨upd t i (nI (pmB P Q k)), by simp (disch := omega) [mX9_laysParts_b34, Option.bind_some, nI_leE, nI_ltE, nI_eqE, nI_1, nI_add, rdI_n, rdL_n, wrI_n, wrL_n, has6b, has9b, bI_0, bI_1, nI_m1, nI_lt0, nI_le0, nI_0le, nI_eq0, leF, leT, ltF, ltT, eqF, hg, hb], fun p hp => ?_⟩
      by_cases e2 : p = i
      · subst e2; rw [pk_us, if_pos (by omega), e4]
      · rw [pk_un e2, hI2 p hp]
        by_cases e3 : p < i
        · rw [if_pos e3, if_pos (by omega)]
        · rw [if_neg e3, if_neg (by omega)]
    | false =>
      have e4 : smB P Q (k + 1) i = smB P Q k i := if_neg (fun h => by have h2 : (pmB P Q k).testBit i = true := h; rw [hb] at h2; cases h2)
      refine ⟨t, by simp (disch := omega) [mX9_laysParts_b34, Option.bind_some, nI_leE, nI_ltE, nI_eqE, nI_1, nI_add, rdI_n, rdL_n, wrI_n, wrL_n, has6b, has9b, bI_0, bI_1, nI_m1, nI_lt0, nI_le0, nI_0le, nI_eq0, leF, leT, ltF, ltT, eqF, hg, hb], fun p hp => ?_⟩
      rw [hI2 p hp]
      by_cases e2 : p = i
      · subst e2; rw [if_neg (by omega), if_pos (by omega), e4]
      · by_cases e3 : p < i
        · rw [if_pos e3, if_pos (by omega)]
        · rw [if_neg e3, if_neg (by omega)]
  · simp (disch := omega) [mX9_laysParts_b34, Option.bind_some, nI_leE, nI_ltE, nI_eqE, nI_1, nI_add, rdI_n, rdL_n, wrI_n, wrL_n, has6b, has9b, bI_0, bI_1, nI_m1, nI_lt0, nI_le0, nI_0le, nI_eq0, leF, leT, ltF, ltT, eqF]
  · intro t ht
    exact ⟨t, ht.1, fun p hp => by have := ht.2 p hp; rw [if_pos hp] at this; exact this⟩
theorem laysParts9 {F N m : Nat} {P Q : Nat → Nat} {made : Nat → Int32} (hF : 1000 ≤ F) (hN : N ≤ 24) (hm : m ≤ 24) (h : ∀ j, j < m → made j = nI (pmB P Q j) ∧ pmB P Q j < 2 ^ 31) (part : Nat → Int32) :
    ∃ t, mX9_laysParts F (nI m) (nI N) made part = some t ∧ ∀ p, p < N → t p = nI (smB P Q m p) := by
  obtain ⟨t1, e1, g1⟩ := lpI (body := fun s2 : Int32 × (Nat → Int32) => mX9_laysParts_b2 F (nI N) s2.1 s2.2) (F := F) (fun i (t : Nat → Int32) => (nI i, t)) (fun i t => ∀ p, p < i → t p = nI (2 ^ p)) 0 N (fun t => t) part (by omega) (s0 := ((0 : Int32), part)) rfl
    (fun p hp => by omega) (fun i t _ hi hI2 => by
      have nb : (1 : Int32) <<< (nI i &&& 31) = nI (2 ^ i) := nI_bit (by omega)
      exact ⟨upd t i (nI (2 ^ i)), by simp (disch := omega) [mX9_laysParts_b2, Option.bind_some, nI_leE, nI_ltE, nI_eqE, nI_1, nI_add, rdI_n, rdL_n, wrI_n, wrL_n, has6b, has9b, bI_0, bI_1, nI_m1, nI_lt0, nI_le0, nI_0le, nI_eq0, leF, leT, ltF, ltT, eqF, nb], upd_all (g := fun p => nI (2 ^ p)) hI2 rfl⟩) (fun t hI2 => by simp (disch := omega) [mX9_laysParts_b2, Option.bind_some, nI_leE, nI_ltE, nI_eqE, nI_1, nI_add, rdI_n, rdL_n, wrI_n, wrL_n, has6b, has9b, bI_0, bI_1, nI_m1, nI_lt0, nI_le0, nI_0le, nI_eq0, leF, leT, ltF, ltT, eqF]) (by omega)
  unfold mX9_laysParts
  rw [e1, Option.bind_some]
  refine lpI (body := fun s27 : Int32 × (Nat → Int32) => mX9_laysParts_b27 F (nI m) (nI N) made s27.1 s27.2) (F := F) (fun k (t : Nat → Int32) => (nI k, t)) (fun k t => ∀ p, p < N → t p = nI (smB P Q k p)) 0 m (fun t => t) t1 (by omega) (s0 := ((0 : Int32), t1)) rfl
    g1 (fun k t _ hk hI2 => ?_) (fun t hI2 => ?_) (by omega)
  · obtain ⟨y, e, g⟩ := laysIn9 (F := F) hF hN (show k < 24 by omega) (h k hk).2 (h k hk).1 hI2
    refine ⟨y, ?_, g⟩
    unfold mX9_laysParts_b27
    rw [if_neg (by rw [nI_leE (by omega) (by omega)]; omega), e, Option.bind_some, nI_1]
  · unfold mX9_laysParts_b27
    rw [if_pos (by rw [nI_leE (by omega) (by omega)]; omega)]
theorem tr2_A {X Y : Nat → Nat} {N : Nat} (hN : N ≤ 24) (hI : IN N X Y) {aparts fs firsts ja os parts pa roots seconds : Nat → Int32} {pairs : Nat → Int64} (h : TR2 X Y N aparts fs firsts ja os parts pa roots seconds pairs) :
    ∀ j, j < N - 1 → aparts j = nI (AA X Y N j) ∧ AA X Y N j < 4194304 := fun j hj => ⟨(h.1 j hj).1, by have := isK_lt hN hI (KK_isK (X := X) (Y := Y) hN hj); unfold AA; omega⟩
theorem tr9_A {X Y : Nat → Nat} {N : Nat} (hN : N ≤ 24) (hI : IN N X Y) {aj ap first made one other second wide : Nat → Int32} (h : TR9 X Y N aj ap first made one other second wide) :
    ∀ j, j < N - 1 → wide j = nI (AA X Y N j) ∧ AA X Y N j < 4194304 := fun j hj => ⟨(h.1 j hj).2.2.2.2.2, by have := isK_lt hN hI (KK_isK (X := X) (Y := Y) hN hj); unfold AA; omega⟩
theorem laysZoom9 {F N z : Nat} {X Y : Nat → Nat} (hF : 1000 ≤ F) (hN : N ≤ 24) (hI : IN N X Y) (hz : z ≤ 10) {aj ap first made one other second wide : Nat → Int32} (h : TR9 X Y N aj ap first made one other second wide) (part : Nat → Int32) :
    ∃ t, mX9_laysZoom F (nI z) (nI N) made part wide = some t ∧ ∀ p, p < N → t p = nI (szB X Y N z p) := by
  have j9 := joinsOf9 (F := F) hF hN hz (tr9_A hN hI h)
  have hl := jwB_le (AA X Y N) (N - 1) z
  obtain ⟨t, e, g⟩ := laysParts9 (F := F) (m := jwB (AA X Y N) (N - 1) z) hF hN (by omega) (fun j hj => tr9_pm hN h j (by omega)) part
  refine ⟨t, ?_, g⟩
  unfold mX9_laysZoom
  rw [j9, Option.bind_some, e, Option.bind_some]
theorem isFirst9 {F N p : Nat} {s : Nat → Nat} {part : Nat → Int32} (hF : 1000 ≤ F) (hN : N ≤ 24) (hS : PART N s) (h : ∀ p, p < N → part p = nI (s p)) (hp : p < N) : mX9_isFirst F (nI p) part = some (bI (hdB s p)) := by
  have ⟨a, b⟩ := part_24 hN hS hp
  have l := lo_part hN hS hp
  unfold mX9_isFirst
  rw [rdI_n (by omega) (by omega), Option.bind_some, h p hp, least9s hF a b, Option.bind_some]
  unfold hdB
  by_cases e : lo (s p) = p
  · rw [if_pos (congrArg nI e), decide_eq_true e]; rfl
  · rw [if_neg (fun g => e ((nI_eq (by omega) (by omega)).mp g)), decide_eq_false e]; rfl
theorem partsNow9 {F N : Nat} {s : Nat → Nat} {part : Nat → Int32} (hF : 1000 ≤ F) (hN : N ≤ 24) (hS : PART N s) (h : ∀ p, p < N → part p = nI (s p)) : mX9_partsNow F (nI N) part = some (nI (cntB (hdB s) N)) := by
  unfold mX9_partsNow
  refine lp (fun k => (nI (cntB (hdB s) k), nI k)) 0 N _ (by omega) rfl (fun k _ hk => ?_) ?_ (by omega)
  · have f := isFirst9 (F := F) hF hN hS h hk
    cases e : hdB s k <;> simp (disch := omega) [mX9_partsNow_b4, Option.bind_some, nI_leE, nI_ltE, nI_eqE, nI_1, nI_add, rdI_n, rdL_n, wrI_n, wrL_n, has6b, has9b, bI_0, bI_1, nI_m1, nI_lt0, nI_le0, nI_0le, nI_eq0, leF, leT, ltF, ltT, eqF, f, e, cntB]
  · simp (disch := omega) [mX9_partsNow_b4, Option.bind_some, nI_leE, nI_ltE, nI_eqE, nI_1, nI_add, rdI_n, rdL_n, wrI_n, wrL_n, has6b, has9b, bI_0, bI_1, nI_m1, nI_lt0, nI_le0, nI_0le, nI_eq0, leF, leT, ltF, ltT, eqF]
theorem szB_cnt {X Y : Nat → Nat} {N z : Nat} (hN : N ≤ 24) : cntB (hdB (szB X Y N z)) N = N - jwB (AA X Y N) (N - 1) z := (tree_parts hN (jwB_le _ _ _)).1
/-- an int is a zoom, or it isn't -/
theorem zm_or (a : Int32) : (∃ z, z ≤ 10 ∧ a = nI z ∧ 0 ≤ a.toInt ∧ a.toInt ≤ 10) ∨ ¬ (0 ≤ a.toInt ∧ a.toInt ≤ 10) := by
  by_cases h : 0 ≤ a.toInt ∧ a.toInt ≤ 10
  · exact Or.inl ⟨a.toInt.toNat, by omega, tI_nI h.1, h.1, h.2⟩
  · exact Or.inr h
theorem groups8 {F N z : Nat} {X Y : Nat → Nat} {aparts : Nat → Int32} (hF : 1000 ≤ F) (hN : N ≤ 24) (hz : z ≤ 10) (h : ∀ j, j < N - 1 → aparts j = nI (AA X Y N j) ∧ AA X Y N j < 4194304) : mX8_groups F (nI z) (nI (N - 1)) (nI N) aparts = some (nI (N - jwB (AA X Y N) (N - 1) z)) := by
  have w := within2 (F := F) hF (show N - 1 ≤ 24 by omega) hz h
  have hl := jwB_le (AA X Y N) (N - 1) z
  unfold mX8_groups
  rw [isZoom8, tI_n (by omega), decide_eq_true (by omega), Option.bind_some, if_neg (by rw [k0T]; exact id), w, Option.bind_some, pk_sub (by omega)]
theorem call_groups {F : Nat} (hF : 5000 ≤ F) : Call_groups F INV := by
  intro ca cl ci fr a1 h
  have h0 := h
  obtain ⟨N, M, S, X, Y, W, U, V, Z, ⟨g1, g2, g3, g4, g5, g6⟩, ⟨i8, i9, i15, i2, i3, i18, i19⟩, ⟨r1, r2, r3⟩, h4, h5, h6, h7⟩ := h
  have hN := g1.1
  rcases zm_or a1 with ⟨z, hz, rfl, z1, z2⟩ | hz
  · obtain ⟨t, e, g⟩ := laysZoom9 (F := F) (by omega) hN g1.2.1 hz h6 (ca 68)
    have p9 := partsNow9 (F := F) (by omega) hN (szB_part hN) g
    have e8 := groups8 (F := F) (by omega) hN hz (tr2_A hN g1.2.1 h4)
    have e9 : mX9_groups F (nI z) (ci 14) (ci 15) (ca 64) (ca 68) (ca 80) = some (nI (N - jwB (AA X Y N) (N - 1) z), (0 : Int32), t) := by
      unfold mX9_groups
      rw [isZoom9, decide_eq_true ⟨z1, z2⟩, Option.bind_some, if_neg (by rw [k0T]; exact id), i15, e, Option.bind_some, p9, Option.bind_some, szB_cnt hN]
    rw [← i8, ← i9] at e8
    exact ⟨_, _, e8, e9, rfl, h0⟩
  · have e8 : mX8_groups F a1 (ci 8) (ci 9) (ca 19) = some (-1) := by
      unfold mX8_groups
      rw [isZoom8, decide_eq_false hz, Option.bind_some, if_pos (by rw [k0F]; trivial)]
    have e9 : mX9_groups F a1 (ci 14) (ci 15) (ca 64) (ca 68) (ca 80) = some (-1, 0, ca 68) := by
      unfold mX9_groups
      rw [isZoom9, decide_eq_false hz, Option.bind_some, if_pos (by rw [k0F]; trivial)]
    exact ⟨_, _, e8, e9, rfl, h0⟩
theorem call_part {F : Nat} (hF : 5000 ≤ F) : Call_part F INV := by
  intro ca cl ci fr a1 a2 h
  have h0 := h
  obtain ⟨N, M, S, X, Y, W, U, V, Z, ⟨g1, g2, g3, g4, g5, g6⟩, ⟨i8, i9, i15, i2, i3, i18, i19⟩, ⟨r1, r2, r3⟩, h4, h5, h6, h7⟩ := h
  have hN := g1.1
  have w9 := isInI9 F a1 1 (nI N).toInt64
  rw [l_1, Int32.toInt_toInt64, tI_n (by omega)] at w9
  have p8 := isPoint8 F hN a2
  have p9 := isPoint9 F hN a2
  by_cases c : 1 ≤ a1.toInt ∧ a1.toInt ≤ N
  · rw [decide_eq_true c] at w9
    obtain ⟨k, hk, rfl⟩ : ∃ k : Nat, (1 ≤ k ∧ k ≤ N) ∧ a1 = nI k := ⟨a1.toInt.toNat, by omega, tI_nI (by omega)⟩
    have q1 : ¬ nI k < (1 : Int32) := by rw [c1, nI_ltE (by omega) (by omega)]; omega
    have q2 : ¬ nI N < nI k := by rw [nI_ltE (by omega) (by omega)]; omega
    by_cases c2 : 0 ≤ a2.toInt ∧ a2.toInt < N
    · rw [decide_eq_true c2] at p8 p9
      obtain ⟨p, hp, rfl⟩ : ∃ p, p < N ∧ a2 = nI p := (pt_or a2 (N := N) (by omega)).resolve_right (by omega)
      have po := partOf2 (F := F) (n := N - 1) (m := N - k) (p := p) (by omega) (by omega) (by omega) (by omega) (tr2_pm hN h4)
      obtain ⟨t, e, g⟩ := laysParts9 (F := F) (N := N) (m := N - k) (by omega) hN (by omega) (fun j hj => tr9_pm hN h6 j (by omega)) (ca 68)
      have ⟨b1, b2⟩ := part_24 hN (smT_part (X := X) (Y := Y) (m := N - k) hN (by omega)) hp
      have e8 : mX8_part F (nI k) (nI p) (ci 8) (ci 9) (ca 25) = some (nI (lo (smT X Y N (N - k) p))) := by
        unfold mX8_part
        rw [i9, i8, if_neg q1, if_neg q2, p8, Option.bind_some, if_neg (by rw [k0T]; exact id), pk_sub hk.2, po, Option.bind_some]
        show (mX6_least F (nI (smT X Y N (N - k) p))).bind _ = _
        rw [least6s (by omega) b1 b2, Option.bind_some]
      have e9 : mX9_part F (nI k) (nI p) (ci 14) (ci 15) (ca 64) (ca 68) = some (nI (lo (smT X Y N (N - k) p)), 0, t) := by
        unfold mX9_part
        rw [i15, w9, Option.bind_some, if_neg (by rw [k0T]; exact id), p9, Option.bind_some, if_neg (by rw [k0T]; exact id), pk_sub hk.2, e, Option.bind_some, rdI_n (by omega) (by omega), Option.bind_some, g p hp]
        show (mX9_least F (nI (smT X Y N (N - k) p))).bind _ = _
        rw [least9s (by omega) b1 b2, Option.bind_some]
      exact ⟨_, _, e8, e9, rfl, h0⟩
    · rw [decide_eq_false c2] at p8 p9
      have e8 : mX8_part F (nI k) a2 (ci 8) (ci 9) (ca 25) = some (-1) := by
        unfold mX8_part
        rw [i9, if_neg q1, if_neg q2, p8, Option.bind_some, if_pos (by rw [k0F]; trivial)]
      have e9 : mX9_part F (nI k) a2 (ci 14) (ci 15) (ca 64) (ca 68) = some (-1, 0, ca 68) := by
        unfold mX9_part
        rw [i15, w9, Option.bind_some, if_neg (by rw [k0T]; exact id), p9, Option.bind_some, if_pos (by rw [k0F]; trivial)]
      exact ⟨_, _, e8, e9, rfl, h0⟩
  · rw [decide_eq_false c] at w9
    have e8 : mX8_part F a1 a2 (ci 8) (ci 9) (ca 25) = some (-1) := by
      unfold mX8_part
      by_cases q1 : a1 < (1 : Int32)
      · rw [if_pos q1]
      · rw [if_neg q1, i9, if_pos]
        rw [tI_lt, i_1] at q1
        rw [tI_lt, tI_n (by omega)]
        omega
    have e9 : mX9_part F a1 a2 (ci 14) (ci 15) (ca 64) (ca 68) = some (-1, 0, ca 68) := by
      unfold mX9_part
      rw [i15, w9, Option.bind_some, if_pos (by rw [k0F]; trivial)]
    exact ⟨_, _, e8, e9, rfl, h0⟩
/-- loops that seek downwards and carry something along -/
theorem lpDS {σ ρ α : Type} {body : σ → Option (σ ⊕ ρ)} {s0 : σ} (St : Nat → α → σ) (I : α → Prop) (p : Nat → Bool) (out : Nat → α → ρ) (d : α → ρ) (n : Nat) {F : Nat} (x0 : α) (hs : s0 = St n x0) (h0 : I x0)
    (hb : ∀ k x, k < n → I x → ∃ y, I y ∧ body (St (k + 1) x) = if p k = true then some (.inr (out k y)) else some (.inl (St k y)))
    (he : ∀ x, I x → body (St 0 x) = some (.inr (d x))) (hF : n < F) : ∃ y, loop body F s0 = some (match lstB p n with | some k => out k y | none => d y) := by
  subst hs
  have key : ∀ m, m ≤ n → ∀ F, m < F → ∀ x, I x → ∃ y, loop body F (St m x) = some (match lstB p m with | some k => out k y | none => d y) := by
    intro m
    induction m with
    | zero =>
      intro _ F hF x hx
      exact ⟨x, by rw [show F = (F - 1) + 1 by omega, loop_out (he x hx)]; rfl⟩
    | succ m ih =>
      intro hm F hF x hx
      obtain ⟨y, hy, e⟩ := hb m x (by omega) hx
      cases hp : p m with
      | true =>
        rw [if_pos hp] at e
        have e2 : lstB p (m + 1) = some m := if_pos hp
        exact ⟨y, by rw [show F = (F - 1) + 1 by omega, loop_out e, e2]⟩
      | false =>
        rw [if_neg (by rw [hp]; decide)] at e
        have e2 : lstB p (m + 1) = lstB p m := if_neg (by rw [hp]; decide)
        obtain ⟨w, ew⟩ := ih (by omega) (F - 1) (by omega) y hy
        exact ⟨w, by rw [show F = (F - 1) + 1 by omega, loop_succ e, ew, e2]⟩
  exact key n (Nat.le_refl _) F hF x0 h0
theorem sz_meet {X Y : Nat → Nat} {N z p q j : Nat} (hN : N ≤ 24) (hp : p < N) (hne : p ≠ q) (hj : meB (fP (KK X Y N)) (fQ (KK X Y N)) p q (N - 1) = some j) : (szB X Y N z p).testBit q = decide (j < jwB (AA X Y N) (N - 1) z) := by
  have ⟨j1, j2, j3⟩ := fstB_some.mp hj
  have ⟨j4, j5⟩ := (Bool.and_eq_true _ _).mp j2
  have hl := jwB_le (AA X Y N) (N - 1) z
  by_cases c : j < jwB (AA X Y N) (N - 1) z
  · rw [decide_eq_true c]
    exact sm_pm (N := N) hp c (fun i hi => KK_lt hN (by omega)) j4 j5
  · rw [decide_eq_false c]
    cases h : (szB X Y N z p).testBit q with
    | false => rfl
    | true =>
      obtain ⟨i, i1, i2, i3⟩ := sm_in hne h
      have := j3 i (by omega)
      rw [i2, i3] at this
      cases this
theorem call_zoom {F : Nat} (hF : 5000 ≤ F) : Call_zoom F INV := by
  intro ca cl ci fr a1 a2 h
  have h0 := h
  obtain ⟨N, M, S, X, Y, W, U, V, Z, ⟨g1, g2, g3, g4, g5, g6⟩, ⟨i8, i9, i15, i2, i3, i18, i19⟩, ⟨r1, r2, r3⟩, h4, h5, h6, h7⟩ := h
  have hN := g1.1
  have p8 := isPoint8 F hN
  have p9 := isPoint9 F hN
  by_cases c : (0 ≤ a1.toInt ∧ a1.toInt < N) ∧ 0 ≤ a2.toInt ∧ a2.toInt < N
  · obtain ⟨p, hp, rfl⟩ : ∃ p, p < N ∧ a1 = nI p := (pt_or a1 (N := N) (by omega)).resolve_right (by omega)
    obtain ⟨q, hq, rfl⟩ : ∃ p, p < N ∧ a2 = nI p := (pt_or a2 (N := N) (by omega)).resolve_right (by omega)
    have m2 := meet2 (F := F) (p := p) (q := q) (by omega) (show N - 1 ≤ 24 by omega) (by omega) (by omega) (tr2_pm hN h4)
    have ep := p8 (nI p)
    have eq := p8 (nI q)
    have fp := p9 (nI p)
    have fq := p9 (nI q)
    rw [decide_eq_true c.1] at ep fp
    rw [decide_eq_true c.2] at eq fq
    by_cases e : p = q
    · subst e
      have e8 : mX8_zoom F (nI p) (nI p) (ci 8) (ci 9) (ca 19) (ca 25) = some (-1) := by
        rw [if_pos rfl] at m2
        unfold mX8_zoom mX8_meets
        rw [i9, i8, ep, m2]
        simp only [Option.bind_some, k0T, if_false, oI, m1_lt0, if_true]
      have e9 : mX9_zoom F (nI p) (nI p) (ci 14) (ci 15) (ca 64) (ca 68) (ca 80) = some (-1, 0, ca 68) := by
        unfold mX9_zoom
        rw [i15, fp]
        simp only [Option.bind_some, k0T, if_false, if_true]
      exact ⟨_, _, e8, e9, rfl, h0⟩
    · obtain ⟨j, j1, j2⟩ := tree_meet (X := X) (Y := Y) hN hp hq e
      have e8 : mX8_zoom F (nI p) (nI q) (ci 8) (ci 9) (ca 19) (ca 25) = some (oI (lstB (fun z => decide (j < jwB (AA X Y N) (N - 1) z)) 11)) := by
        rw [if_neg e, j2] at m2
        unfold mX8_zoom mX8_meets
        rw [i9, i8, ep, eq, m2]
        simp only [Option.bind_some, k0T, if_false, oI]
        rw [if_neg (by rw [nI_lt0 (by omega)]; exact id), if_pos (by rw [nI_ltE (by omega) (by omega)]; exact j1)]
        refine (lpD dn (fun z => decide (j < jwB (AA X Y N) (N - 1) z)) nI (-1) 11 rfl (fun k hk _ => ?_) (fun _ => ?_) (by omega)).trans ?_
        · have w := within2 (F := F) (by omega) (show N - 1 ≤ 24 by omega) (show k ≤ 10 by omega) (tr2_A hN g1.2.1 h4)
          have hl := jwB_le (AA X Y N) (N - 1) k
          show mX8_zoom_b28 F (nI (N - 1)) (ca 19) (nI j) (nI k) = if decide (j < jwB (AA X Y N) (N - 1) k) = true then some (.inr (nI k)) else some (.inl (dn k))
          unfold mX8_zoom_b28
          rw [if_neg (show ¬ nI k < 0 by rw [nI_lt0 (by omega)]; exact id), w, Option.bind_some]
          by_cases g : j < jwB (AA X Y N) (N - 1) k
          · rw [if_neg (by rw [nI_leE (by omega) (by omega)]; omega), if_pos (decide_eq_true g)]
          · rw [if_pos (by rw [nI_leE (by omega) (by omega)]; omega), if_neg (by rw [decide_eq_false g]; decide), dn_pred]
        · show mX8_zoom_b28 F (nI (N - 1)) (ca 19) (nI j) (-1) = some (.inr (-1))
          unfold mX8_zoom_b28
          rw [if_pos (show (-1 : Int32) < 0 by rw [m1_lt0]; trivial)]
        · exact congrArg some (oI_def _)
      obtain ⟨t, e9⟩ : ∃ t, mX9_zoom F (nI p) (nI q) (ci 14) (ci 15) (ca 64) (ca 68) (ca 80) = some (oI (lstB (fun z => decide (j < jwB (AA X Y N) (N - 1) z)) 11), 0, t) := by
        have en : ¬ nI p = nI q := by rw [nI_eqE (by omega) (by omega)]; exact e
        unfold mX9_zoom
        rw [i15, fp, fq]
        simp only [Option.bind_some, k0T, if_false, en]
        refine Exists.elim (lpDS (body := fun s31 : Int32 × (Nat → Int32) => mX9_zoom_b31 F (nI p) (nI q) (nI N) (ca 64) (ca 80) s31.1 s31.2) (s0 := ((10 : Int32), ca 68)) (F := F) (fun k (t : Nat → Int32) => (dn k, t)) (fun _ => True) (fun z => decide (j < jwB (AA X Y N) (N - 1) z))
          (fun k t => (nI k, (0 : Int32), t)) (fun t => ((-1 : Int32), (0 : Int32), t)) 11 (ca 68) rfl trivial (fun k t hk _ => ?_) (fun t _ => ?_) (by omega)) (fun t ht => ⟨t, ht.trans ?_⟩)
        · obtain ⟨y, ey, gy⟩ := laysZoom9 (F := F) (by omega) hN g1.2.1 (show k ≤ 10 by omega) h6 t
          have ⟨b1, b2⟩ := part_24 hN (szB_part (X := X) (Y := Y) (z := k) hN) hp
          refine ⟨y, trivial, ?_⟩
          show mX9_zoom_b31 F (nI p) (nI q) (nI N) (ca 64) (ca 80) (nI k) t = if decide (j < jwB (AA X Y N) (N - 1) k) = true then some (.inr (nI k, (0 : Int32), y)) else some (.inl (dn k, y))
          unfold mX9_zoom_b31
          rw [if_neg (show ¬ nI k < 0 by rw [nI_lt0 (by omega)]; exact id), ey, Option.bind_some, rdI_n (by omega) (by omega), Option.bind_some, gy p hp, has9b F (by omega) (by omega), Option.bind_some, sz_meet hN hp e j2]
          by_cases g : j < jwB (AA X Y N) (N - 1) k
          · rw [decide_eq_true g, if_neg (by rw [k0T]; exact id), if_pos rfl]
          · rw [decide_eq_false g, if_pos (by rw [k0F]; trivial), if_neg (by decide), dn_pred]
        · show mX9_zoom_b31 F (nI p) (nI q) (nI N) (ca 64) (ca 80) (-1) t = some (.inr ((-1 : Int32), (0 : Int32), t))
          unfold mX9_zoom_b31
          rw [if_pos (show (-1 : Int32) < 0 by rw [m1_lt0]; trivial)]
        · cases lstB (fun z => decide (j < jwB (AA X Y N) (N - 1) z)) 11 <;> rfl
      exact ⟨_, _, e8, e9, rfl, h0⟩
  · have e8 : mX8_zoom F a1 a2 (ci 8) (ci 9) (ca 19) (ca 25) = some (-1) := by
      unfold mX8_zoom mX8_meets
      rw [i9, p8, p8]
      by_cases c1 : 0 ≤ a1.toInt ∧ a1.toInt < N
      · rw [decide_eq_true c1, decide_eq_false (fun c2 => c ⟨c1, c2⟩)]
        simp only [Option.bind_some, k0T, k0F, if_false, if_true, m1_lt0]
      · rw [decide_eq_false c1]
        simp only [Option.bind_some, k0F, if_true, m1_lt0]
    have e9 : mX9_zoom F a1 a2 (ci 14) (ci 15) (ca 64) (ca 68) (ca 80) = some (-1, 0, ca 68) := by
      unfold mX9_zoom
      rw [i15, p9, p9]
      by_cases c1 : 0 ≤ a1.toInt ∧ a1.toInt < N
      · rw [decide_eq_true c1, decide_eq_false (fun c2 => c ⟨c1, c2⟩)]
        simp only [Option.bind_some, k0T, k0F, if_false, if_true]
      · rw [decide_eq_false c1]
        simp only [Option.bind_some, k0F, if_true]
    exact ⟨_, _, e8, e9, rfl, h0⟩
/-- the clearest number of parts, and its step -/
def clB (R : Nat → Nat) (n : Nat) : Nat → Int32 × Int32
  | 0 => (-1, -1)
  | i + 1 => if (clB R n i).2 < nI (R (n - 2 - i)) - nI (R (n - 2 - i - 1)) then (nI (i + 2), nI (R (n - 2 - i)) - nI (R (n - 2 - i - 1))) else clB R n i
theorem call_clearest {F : Nat} (hF : 5000 ≤ F) : Call_clearest F INV := by
  intro ca cl ci fr h
  have h0 := h
  obtain ⟨N, M, S, X, Y, W, U, V, Z, ⟨g1, g2, g3, g4, g5, g6⟩, ⟨i8, i9, i15, i2, i3, i18, i19⟩, ⟨r1, r2, r3⟩, h4, h5, h6, h7⟩ := h
  have hN := g1.1
  have hR : ∀ j, j < N - 1 → ca 30 j = nI (rt (AA X Y N j)) := fun j hj => (h4.1 j hj).2.2.2.2.2.1
  have hA := tr9_A hN g1.2.1 h6
  have e8 : mX8_clearest F (ci 8) (ci 9) (ca 30) = some (clB (fun j => rt (AA X Y N j)) N (N - 2)).1 := by
    unfold mX8_clearest
    rw [i8, i9, Option.bind_some]
    by_cases hN2 : 2 ≤ N
    · rw [nI_s1 (by omega)]
      refine lp (fun i => ((clB (fun j => rt (AA X Y N j)) N i).1, (clB (fun j => rt (AA X Y N j)) N i).2, nI (N - 2 - i))) 0 (N - 2) _ (by omega) rfl (fun i _ hi => ?_) ?_ (by omega)
      · have ea := hR (N - 2 - i) (by omega)
        have eb := hR (N - 2 - i - 1) (by omega)
        unfold mX8_clearest_b14
        simp only []
        rw [if_neg (by rw [c1, nI_ltE (by omega) (by omega)]; omega), rdI_n (by omega) (by omega), Option.bind_some, nI_s1 (by omega), rdI_n (by omega) (by omega), Option.bind_some, Option.bind_some, ea, eb, nI_a1 (by omega)]
        simp only [clB]
        by_cases g : (clB (fun j => rt (AA X Y N j)) N i).2 < nI (rt (AA X Y N (N - 2 - i))) - nI (rt (AA X Y N (N - 2 - i - 1)))
        · rw [if_pos g, if_neg (Int32.not_le.mpr g), Option.bind_some, pk_sub (by omega)]
          simp only []
          rw [show N - (N - 2 - i) = i + 2 by omega, show N - 2 - i - 1 = N - 2 - (i + 1) by omega]
        · rw [if_neg g, if_pos (Int32.not_lt.mp g)]
          rw [show N - 2 - i - 1 = N - 2 - (i + 1) by omega]
      · unfold mX8_clearest_b14
        simp only []
        rw [if_pos (by rw [c1, nI_ltE (by omega) (by omega)]; omega)]
    · rw [show N - 2 = 0 by omega, show N - 1 = 0 by omega]
      refine lp (fun _ => ((-1 : Int32), (-1 : Int32), nI 0 - 1)) 0 0 _ (by omega) rfl (fun i _ hi => by omega) ?_ (by omega)
      unfold mX8_clearest_b14
      rw [if_pos (by decide +kernel)]
      rfl
  have e9 : mX9_clearest F (ci 14) (ci 15) (ca 80) = some ((clB (fun j => rt (AA X Y N j)) N (N - 2)).1, 0) := by
    unfold mX9_clearest
    rw [i15]
    by_cases hN2 : 2 ≤ N
    · refine lp (fun i => ((clB (fun j => rt (AA X Y N j)) N i).1, (clB (fun j => rt (AA X Y N j)) N i).2, nI (i + 2))) 0 (N - 2) _ (by omega) rfl (fun i _ hi => ?_) ?_ (by omega)
      · have ⟨ea, ea2⟩ := hA (N - 2 - i) (by omega)
        have ⟨eb, eb2⟩ := hA (N - 2 - i - 1) (by omega)
        have ra := root9 (F := F) hF ea2
        have rb := root9 (F := F) hF eb2
        unfold mX9_clearest_b11
        simp only []
        rw [if_neg (by rw [nI_leE (by omega) (by omega)]; omega), pk_sub (by omega), show N - (i + 2) = N - 2 - i by omega, rdI_n (by omega) (by omega), Option.bind_some, ea, ra, Option.bind_some, nI_s1 (by omega), rdI_n (by omega) (by omega), Option.bind_some, eb, rb, Option.bind_some, Option.bind_some]
        simp only [clB]
        by_cases g : (clB (fun j => rt (AA X Y N j)) N i).2 < nI (rt (AA X Y N (N - 2 - i))) - nI (rt (AA X Y N (N - 2 - i - 1)))
        · rw [if_pos g, if_pos g, nI_1]
        · rw [if_neg g, if_neg g, nI_1]
      · unfold mX9_clearest_b11
        simp only []
        rw [if_pos (by rw [nI_leE (by omega) (by omega)]; omega)]
    · rw [show N - 2 = 0 by omega]
      refine lp (fun _ => ((-1 : Int32), (-1 : Int32), (2 : Int32))) 0 0 _ (by omega) rfl (fun i _ hi => by omega) ?_ (by omega)
      unfold mX9_clearest_b11
      rw [if_pos (by rw [c2, nI_leE (by omega) (by omega)]; omega)]
      rfl
  exact ⟨_, _, e8, e9, rfl, h0⟩
