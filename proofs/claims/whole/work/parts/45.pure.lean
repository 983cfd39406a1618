/-! ===== PURE 36: parts as they were ===== -/
theorem merge_iff (a b c d : Nat) : ((if a = d then c else a) = (if b = d then c else b)) ↔ (if c = a ∨ d = a then (c = b ∨ d = b) else a = b) := by
  by_cases h1 : a = d <;> by_cases h2 : b = d <;> by_cases h3 : c = a <;> by_cases h4 : c = b <;> simp [h1, h2, h3, h4] <;> omega
theorem good_pn {N : Nat} {X Y W : Nat → Nat} (g : GOOD N X Y W) {p q : Nat} (hp : p < N) (hq : q < N) : pn X Y p = pn X Y q ↔ p = q := by
  rw [pn_pl (g.2.1 p hp) (g.2.1 q hq)]
  exact ⟨fun h => good_ne g hp hq h, fun h => by rw [h]⟩
theorem jw_low {A : Nat → Nat} {n z j : Nat} (h : j < jwB A n z) : A j ≤ rad z * rad z := by
  unfold jwB at h
  cases e : fstB (fun j => decide (rad z * rad z < A j)) n with
  | none =>
    rw [e] at h
    have := of_decide_eq_false (fstB_none.mp e j h)
    omega
  | some i =>
    rw [e] at h
    have := of_decide_eq_false ((fstB_some.mp e).2.2 j h)
    omega
theorem jw_high {A : Nat → Nat} {n z j : Nat} (hA : ∀ i j, i ≤ j → j < n → A i ≤ A j) (h : jwB A n z ≤ j) (hj : j < n) : rad z * rad z < A j := by
  unfold jwB at h
  cases e : fstB (fun j => decide (rad z * rad z < A j)) n with
  | none =>
    rw [e] at h
    simp only [] at h
    omega
  | some i =>
    rw [e] at h
    have := of_decide_eq_true (fstB_some.mp e).2.1
    have := hA i j h hj
    omega
theorem AA_mono {X Y : Nat → Nat} {N i j : Nat} (hij : i ≤ j) (hj : j < N - 1) : AA X Y N i ≤ AA X Y N j := Nat.div_le_div_right (KS_sorted (N - 1) i j hij hj)
theorem was64 {F M j : Nat} {U V Z : Nat → Nat} {one other place part : Nat → Int32} {wp : Nat → Nat} (hF : 1000 ≤ F) (g : GOOD M U V Z) (hj : j < M - 1) (h1 : one j = nI (pn U V (fP (KK U V M) j))) (h2 : other j = nI (pn U V (fQ (KK U V M) j))) (hpl : ∀ p, p < M → place p = nI (pn U V p)) (hw : ∀ p, p < M → part p = nI (wp p) ∧ wp p < M) :
    loop (fun s64 : Int32 × Int32 × Int32 => mX9_laysWas_b64 F (nI M) one other place (nI j) part s64.1 s64.2.1 s64.2.2) F ((-1 : Int32), (-1 : Int32), (0 : Int32)) = some (nI (wp (fP (KK U V M) j)), nI (wp (fQ (KK U V M) j))) := by
  have hM := g.1
  have ⟨a1, a2⟩ := KK_lt (X := U) (Y := V) hM hj
  have d1 := pn_lt g.2.1 a1
  have d2 := pn_lt g.2.1 a2
  have h := lp (body := fun s64 : Int32 × Int32 × Int32 => mX9_laysWas_b64 F (nI M) one other place (nI j) part s64.1 s64.2.1 s64.2.2) (F := F) (s0 := ((-1 : Int32), (-1 : Int32), (0 : Int32)))
    (fun k => ((if fP (KK U V M) j < k then nI (wp (fP (KK U V M) j)) else -1), (if fQ (KK U V M) j < k then nI (wp (fQ (KK U V M) j)) else -1), nI k)) 0 M ((if fP (KK U V M) j < M then nI (wp (fP (KK U V M) j)) else -1), (if fQ (KK U V M) j < M then nI (wp (fQ (KK U V M) j)) else -1)) (by omega) (by show _ = ((if fP (KK U V M) j < 0 then _ else (-1 : Int32)), (if fQ (KK U V M) j < 0 then _ else (-1 : Int32)), nI 0); rw [if_neg (by omega), if_neg (by omega)]; rfl) (fun k _ hk => ?_) ?_ (by omega)
  · rw [if_pos a1, if_pos a2] at h
    exact h
  · have ⟨w1, w2⟩ := hw k hk
    have dk := pn_lt g.2.1 hk
    have e1 := good_pn g hk a1
    have e2 := good_pn g hk a2
    have j97 : ∀ x y : Int32, mX9_laysWas_j97 F other place (nI j) part x y (nI k) = some (.inl (x, (if k = fQ (KK U V M) j then nI (wp k) else y), nI (k + 1))) := fun x y => by
      unfold mX9_laysWas_j97
      rw [rdI_n (by omega) (by omega), Option.bind_some, rdI_n (by omega) (by omega), Option.bind_some, hpl k hk, h2, nI_1]
      by_cases q : k = fQ (KK U V M) j
      · rw [if_pos (congrArg nI (e2.mpr q)), rdI_n (by omega) (by omega), Option.bind_some, w1, if_pos q]
      · rw [if_neg (fun r => q (e2.mp ((nI_eq (by omega) (by omega)).mp r))), if_neg q]
    have fold : ∀ (r : Nat), r < M → (if k = r then nI (wp k) else (if r < k then nI (wp r) else (-1 : Int32))) = (if r < k + 1 then nI (wp r) else -1) := fun r _ => by
      by_cases q : k = r
      · rw [if_pos q, if_pos (by omega), q]
      · rw [if_neg q]
        by_cases q2 : r < k
        · rw [if_pos q2, if_pos (by omega)]
        · rw [if_neg q2, if_neg (by omega)]
    unfold mX9_laysWas_b64
    simp only []
    rw [if_neg (show ¬ nI M ≤ nI k by rw [nI_leE (by omega) (by omega)]; omega), rdI_n (by omega) (by omega), Option.bind_some, rdI_n (by omega) (by omega), Option.bind_some, hpl k hk, h1, j97, ← fold _ a1, ← fold _ a2]
    by_cases q : k = fP (KK U V M) j
    · rw [if_pos (congrArg nI (e1.mpr q)), rdI_n (by omega) (by omega), Option.bind_some, j97, w1, if_pos q]
    · rw [if_neg (fun r => q (e1.mp ((nI_eq (by omega) (by omega)).mp r))), if_neg q]
  · unfold mX9_laysWas_b64
    simp only []
    rw [if_pos (show nI M ≤ nI M by rw [nI_leE (by omega) (by omega)]; omega)]
theorem was131 {F M : Nat} {part : Nat → Int32} {wp : Nat → Nat} {a b : Nat} (hF : 1000 ≤ F) (hM : M ≤ 24) (hb : b < M) (hw : ∀ p, p < M → part p = nI (wp p) ∧ wp p < M) :
    ∃ t, loop (fun s131 : Int32 × (Nat → Int32) => mX9_laysWas_b131 F (nI M) (nI a) (nI b) s131.1 s131.2) F ((0 : Int32), part) = some t ∧ ∀ p, p < M → t p = nI (if wp p = b then a else wp p) := by
  refine Exists.elim (lpI (body := fun s131 : Int32 × (Nat → Int32) => mX9_laysWas_b131 F (nI M) (nI a) (nI b) s131.1 s131.2) (F := F) (fun k (t : Nat → Int32) => (nI k, t)) (fun k t => ∀ p, p < M → t p = if p < k then nI (if wp p = b then a else wp p) else nI (wp p)) 0 M (fun t => t) part (by omega) (s0 := ((0 : Int32), part)) rfl
    (fun p hp => by rw [if_neg (by omega)]; exact (hw p hp).1) (fun k t _ hk hI2 => ?_) (fun t _ => ?_) (by omega)) (fun t ht => ⟨t, ht.1, fun p hp => by have := ht.2 p hp; rw [if_pos hp] at this; exact this⟩)
  · have tk := hI2 k hk
    rw [if_neg (by omega)] at tk
    have ⟨_, w2⟩ := hw k hk
    have hle : ¬ nI M ≤ nI k := by rw [nI_leE (by omega) (by omega)]; omega
    by_cases q : wp k = b
    · refine ⟨upd t k (nI a), ?_, fun p hp => ?_⟩
      · unfold mX9_laysWas_b131
        simp only []
        rw [if_neg hle, rdI_n (by omega) (by omega), Option.bind_some, tk, if_pos (congrArg nI q), wrI_n (by omega) (by omega), Option.bind_some, nI_1]
      · by_cases e : p = k
        · subst e; rw [pk_us, if_pos (show p < p + 1 by omega), if_pos q]
        · rw [pk_un e, hI2 p hp]
          by_cases e3 : p < k
          · rw [if_pos e3, if_pos (show p < k + 1 by omega)]
          · rw [if_neg e3, if_neg (show ¬ p < k + 1 by omega)]
    · refine ⟨t, ?_, fun p hp => ?_⟩
      · unfold mX9_laysWas_b131
        simp only []
        rw [if_neg hle, rdI_n (by omega) (by omega), Option.bind_some, tk, if_neg (fun r => q ((nI_eq (by omega) (by omega)).mp r)), nI_1]
      · rw [hI2 p hp]
        by_cases e : p = k
        · subst e; rw [if_neg (show ¬ p < p by omega), if_pos (show p < p + 1 by omega), if_neg q]
        · by_cases e3 : p < k
          · rw [if_pos e3, if_pos (show p < k + 1 by omega)]
          · rw [if_neg e3, if_neg (show ¬ p < k + 1 by omega)]
  · unfold mX9_laysWas_b131
    rw [if_pos (show nI M ≤ nI M by rw [nI_leE (by omega) (by omega)]; omega)]
/-- the row of parts as they were: like numbers where two are in one part -/
def WPS (M : Nat) (s : Nat → Nat) (t : Nat → Int32) : Prop := ∃ wp : Nat → Nat, (∀ p, p < M → t p = nI (wp p) ∧ wp p < M) ∧ ∀ p q, p < M → q < M → (wp p = wp q ↔ (s p).testBit q = true)
theorem was_step {M j : Nat} {P Q wp : Nat → Nat} (hPQ : ∀ i, i < j + 1 → P i < M ∧ Q i < M) (h : ∀ p q, p < M → q < M → (wp p = wp q ↔ (smB P Q j p).testBit q = true)) :
    ∀ p q, p < M → q < M → ((if wp p = wp (Q j) then wp (P j) else wp p) = (if wp q = wp (Q j) then wp (P j) else wp q) ↔ (smB P Q (j + 1) p).testBit q = true) := by
  intro p q hp hq
  have ⟨ha, hb⟩ := hPQ j (by omega)
  have pm : ∀ r, r < M → ((pmB P Q j).testBit r = true ↔ wp (P j) = wp r ∨ wp (Q j) = wp r) := fun r hr => by
    unfold pmB
    rw [or_bit, Bool.or_eq_true, h _ r ha hr, h _ r hb hr]
  rw [merge_iff]
  by_cases c : (pmB P Q j).testBit p = true
  · rw [pm_sub (N := M) c, if_pos ((pm p hp).mp c), pm q hq]
  · rw [if_neg (fun r => c ((pm p hp).mpr r)), h p q hp hq, show smB P Q (j + 1) p = smB P Q j p from if_neg c]
theorem laysWas9 {F M z : Nat} {U V Z : Nat → Nat} {place one other wide : Nat → Int32} (hF : 1000 ≤ F) (g : GOOD M U V Z) (hz : z ≤ 10) (h : WAS M U V place one other wide) (part : Nat → Int32) :
    ∃ t, mX9_laysWas F (nI z) (nI M) one other part place wide = some t ∧ WPS M (szB U V M z) t := by
  have hM := g.1
  have w9 := wasJoins9 (F := F) hM
  have r9 := radius9 (F := F) hz
  have rl := rad_le z
  have rs := rad_sq z
  obtain ⟨t0, e0, g0⟩ := lpI (body := fun s2 : Int32 × (Nat → Int32) => mX9_laysWas_b2 F (nI M) s2.1 s2.2) (F := F) (fun k (t : Nat → Int32) => (nI k, t)) (fun k t => ∀ p, p < k → t p = nI p) 0 M (fun t => t) part (by omega) (s0 := ((0 : Int32), part)) rfl
    (fun p hp => by omega) (fun k t _ hk hI2 => by
      refine ⟨upd t k (nI k), ?_, upd_all (g := fun k => nI k) hI2 rfl⟩
      unfold mX9_laysWas_b2
      rw [if_neg (by rw [nI_leE (by omega) (by omega)]; omega), wrI_n (by omega) (by omega), Option.bind_some, nI_1]) (fun t hI2 => by
      unfold mX9_laysWas_b2
      rw [if_pos (by rw [nI_leE (by omega) (by omega)]; omega)]) (by omega)
  unfold mX9_laysWas
  rw [e0, Option.bind_some]
  have hjw := jwB_le (AA U V M) (M - 1) z
  have fin : ∀ t, WPS M (smT U V M (min (M - 1) (jwB (AA U V M) (M - 1) z))) t → WPS M (szB U V M z) t := fun t ht => by
    rw [Nat.min_eq_right hjw] at ht
    exact ht
  refine Exists.elim (lpI (body := fun s25 : Int32 × (Nat → Int32) => mX9_laysWas_b25 F (nI z) (nI M) one other place wide s25.1 s25.2) (F := F) (fun k (t : Nat → Int32) => (nI k, t)) (fun k t => WPS M (smT U V M (min k (jwB (AA U V M) (M - 1) z))) t) 0 (M - 1) (fun t => t) t0 (by omega) (s0 := ((0 : Int32), t0)) rfl
    ⟨fun p => p, fun p hp => ⟨g0 p hp, hp⟩, fun p q hp hq => by rw [Nat.zero_min]; show p = q ↔ (2 ^ p).testBit q = true; rw [Nat.testBit_two_pow]; simp⟩ (fun j t _ hj hI2 => ?_) (fun t _ => ?_) (by omega)) (fun t ht => ⟨t, ht.1, fin t ht.2⟩)
  · have aw : wide j = nI (AA U V M j) := (h.2 j hj).2.2
    have ab : AA U V M j < 4194304 := by have := isK_lt hM g.2.1 (KK_isK (X := U) (Y := V) hM hj); unfold AA; omega
    have hle : ¬ nI (M - 1) ≤ nI j := by rw [nI_leE (by omega) (by omega)]; omega
    obtain ⟨wp, w1, w2⟩ := hI2
    have ⟨a1, a2⟩ := KK_lt (X := U) (Y := V) hM hj
    by_cases c : j < jwB (AA U V M) (M - 1) z
    · have al := jw_low c
      have b64 := was64 (F := F) hF g hj (h.2 j hj).1 (h.2 j hj).2.1 h.1 w1
      obtain ⟨u, eu, gu⟩ := was131 (F := F) (a := wp (fP (KK U V M) j)) (b := wp (fQ (KK U V M) j)) hF hM (w1 _ a2).2 w1
      rw [show min j (jwB (AA U V M) (M - 1) z) = j by omega] at w2
      refine ⟨u, ?_, fun p => if wp p = wp (fQ (KK U V M) j) then wp (fP (KK U V M) j) else wp p, fun p hp => ⟨gu p hp, by simp only []; split; exact (w1 _ a1).2; exact (w1 p hp).2⟩, ?_⟩
      · unfold mX9_laysWas_b25
        rw [w9, Option.bind_some, if_neg hle, rdI_n (by omega) (by omega), Option.bind_some, aw, r9, Option.bind_some, Option.bind_some, pk_mul, if_pos (show nI (AA U V M j) ≤ nI (rad z * rad z) by rw [nI_leE (by omega) (by omega)]; exact al), b64, Option.bind_some, eu, Option.bind_some, nI_1]
      · rw [show min (j + 1) (jwB (AA U V M) (M - 1) z) = j + 1 by omega]
        exact was_step (fun i hi => KK_lt hM (by omega)) w2
    · have ah := jw_high (A := AA U V M) (fun i j hij hj => AA_mono hij hj) (show jwB (AA U V M) (M - 1) z ≤ j by omega) hj
      refine ⟨t, ?_, ?_⟩
      · unfold mX9_laysWas_b25
        rw [w9, Option.bind_some, if_neg hle, rdI_n (by omega) (by omega), Option.bind_some, aw, r9, Option.bind_some, Option.bind_some, pk_mul, if_neg (show ¬ nI (AA U V M j) ≤ nI (rad z * rad z) by rw [nI_leE (by omega) (by omega)]; omega), nI_1]
      · rw [show min (j + 1) (jwB (AA U V M) (M - 1) z) = min j (jwB (AA U V M) (M - 1) z) by omega]
        exact ⟨wp, w1, w2⟩
  · unfold mX9_laysWas_b25
    rw [w9, Option.bind_some, if_pos (by rw [nI_leE (by omega) (by omega)]; omega)]
