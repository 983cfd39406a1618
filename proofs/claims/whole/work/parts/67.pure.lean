/-! ===== PURE 58: call longest, the loops ===== -/
def pk3 (x1 : Int32) (t : Int32 × Int32 × Int32) : Int32 := if x1 = 0 then t.1 else if x1 = (1 : Int32) then t.2.1 else t.2.2
theorem lg62_b {F N p k v : Nat} {f : Nat → Nat → Int32} {t : Option (Nat × Nat × Nat)} (hN : N ≤ 24) (hp : p < N) (hk : k < N) (hf : f p k = nI v) (hv : v ≤ 49152) (ht : lgBd t) :
    mX8_longest_b62 F (nI N) f (nI p) (lg8 t).1 (lg8 t).2.1 (lg8 t).2.2 (nI k) = some (.inl ((lg8 (lgS t p k v)).1, (lg8 (lgS t p k v)).2.1, (lg8 (lgS t p k v)).2.2, nI (k + 1))) := by
  unfold mX8_longest_b62
  rw [if_neg (show ¬ nI N ≤ nI k by rw [nI_leE (by omega) (by omega)]; omega), ck_n (by omega), Option.bind_some, tn_n (by omega), rdI_n (by omega) (by omega), Option.bind_some, Option.bind_some, Option.bind_some, hf, nI_1]
  cases t with
  | none =>
    rw [if_neg (show ¬ nI v ≤ (lg8 none).1 by show ¬ nI v ≤ (-1 : Int32); rw [tI_le, tI_n (by omega), m1_toInt]; omega)]
    rfl
  | some u =>
    have hu := ht u rfl
    show (if nI v ≤ nI u.1 then _ else _) = _
    by_cases c : v ≤ u.1
    · have e : lgS (some u) p k v = some u := if_pos c
      rw [if_pos (by rw [nI_leE (by omega) (by omega)]; exact c), e]
    · have e : lgS (some u) p k v = some (v, p, k) := if_neg c
      rw [if_neg (by rw [nI_leE (by omega) (by omega)]; exact c), e]
      rfl
theorem lg62 {F N p : Nat} {d : Nat → Nat → Nat} {f : Nat → Nat → Int32} {s : Option (Nat × Nat × Nat)} (hF : 1000 ≤ F) (hN : N ≤ 24) (hp : p < N) (hf : ∀ k, k < N → f p k = nI (d p k) ∧ d p k ≤ 49152) (hs : lgBd s) :
    loop (fun s62 : Int32 × Int32 × Int32 × Int32 => mX8_longest_b62 F (nI N) f (nI p) s62.1 s62.2.1 s62.2.2.1 s62.2.2.2) F ((lg8 s).1, (lg8 s).2.1, (lg8 s).2.2, nI (p + 1)) = some (lg8 (lgIn d p s N)) := by
  refine lp (fun k => ((lg8 (lgIn d p s k)).1, (lg8 (lgIn d p s k)).2.1, (lg8 (lgIn d p s k)).2.2, nI k)) (p + 1) N (lg8 (lgIn d p s N)) (by omega) (by rw [lgIn_0 (p + 1) (by omega)]) (fun k hk1 hk => ?_) ?_ (by omega)
  · have e : lgIn d p s (k + 1) = lgS (lgIn d p s k) p k (d p k) := if_pos (by omega)
    rw [e]
    exact lg62_b hN hp hk (hf k hk).1 (hf k hk).2 (lgIn_bd (N := N) (fun q hq => (hf q hq).2) hs k (by omega))
  · unfold mX8_longest_b62
    simp only []
    rw [if_pos (show nI N ≤ nI N by rw [nI_leE (by omega) (by omega)]; omega)]
theorem longest8 {F N : Nat} {d : Nat → Nat → Nat} {f : Nat → Nat → Int32} (hF : 1000 ≤ F) (hN : N ≤ 24) (hf : ∀ p k, p < N → k < N → f p k = nI (d p k) ∧ d p k ≤ 49152) (x1 : Int32) :
    loop (fun s50 : Int32 × Int32 × Int32 × Int32 => mX8_longest_b50 F x1 (nI N) f s50.1 s50.2.1 s50.2.2.1 s50.2.2.2) F ((-1 : Int32), (-1 : Int32), (-1 : Int32), (0 : Int32)) = some (pk3 x1 (lg8 (lgOut d N N)), f) := by
  refine lp (fun k => ((lg8 (lgOut d N k)).1, (lg8 (lgOut d N k)).2.1, (lg8 (lgOut d N k)).2.2, nI k)) 0 N (pk3 x1 (lg8 (lgOut d N N)), f) (by omega) rfl (fun p _ hp => ?_) ?_ (by omega)
  · have e := lg62 (F := F) (d := d) (f := f) hF hN hp (fun k hk => hf p k hp hk) (lgOut_bd (N := N) (fun p q hp hq => (hf p q hp hq).2) p (by omega))
    unfold mX8_longest_b50
    simp only []
    rw [if_neg (show ¬ nI N ≤ nI p by rw [nI_leE (by omega) (by omega)]; omega), nI_1, Option.bind_some, e, Option.bind_some]
    rfl
  · unfold mX8_longest_b50 pk3
    simp only []
    rw [if_pos (show nI N ≤ nI N by rw [nI_leE (by omega) (by omega)]; omega)]
    by_cases c : x1 = 0
    · rw [if_pos c, if_pos c]
    · rw [if_neg c, if_neg c]
      by_cases c2 : x1 = (1 : Int32)
      · rw [if_pos c2, if_pos c2]
      · rw [if_neg c2, if_neg c2]
theorem lg53 {F N p : Nat} {X Y : Nat → Nat} {first second xs ys : Nat → Int32} {s : Option (Nat × Nat × Nat)} (hF : 5000 ≤ F) (hN : N ≤ 24) (hP : PT N X Y xs ys) (hI : IN N X Y) (h1 : ∀ j, j < N - 1 → first j = nI (fP (KK X Y N) j) ∧ second j = nI (fQ (KK X Y N) j)) (hp : p < N) (hs : lgBd s) (wl : Int32) (way : Nat → Int32) :
    ∃ u : Int32 × (Nat → Int32), loop (fun s53 : Int32 × Int32 × Int32 × Int32 × Int32 × (Nat → Int32) => mX9_longest_b53 F (nI N) first second xs ys (nI p) s53.1 s53.2.1 s53.2.2.1 s53.2.2.2.1 s53.2.2.2.2.1 s53.2.2.2.2.2) F ((lg9 s).1, (lg9 s).2.1, (lg9 s).2.2, nI (p + 1), wl, way) =
      some ((lg9 (lgIn (drB X Y N) p s N)).1, (lg9 (lgIn (drB X Y N) p s N)).2.1, (lg9 (lgIn (drB X Y N) p s N)).2.2, u.1, u.2) := by
  obtain ⟨u, e, _⟩ := lpI (body := fun s53 : Int32 × Int32 × Int32 × Int32 × Int32 × (Nat → Int32) => mX9_longest_b53 F (nI N) first second xs ys (nI p) s53.1 s53.2.1 s53.2.2.1 s53.2.2.2.1 s53.2.2.2.2.1 s53.2.2.2.2.2) (F := F)
    (fun k (u : Int32 × (Nat → Int32)) => ((lg9 (lgIn (drB X Y N) p s k)).1, (lg9 (lgIn (drB X Y N) p s k)).2.1, (lg9 (lgIn (drB X Y N) p s k)).2.2, nI k, u.1, u.2)) (fun _ _ => True) (p + 1) N
    (fun u => ((lg9 (lgIn (drB X Y N) p s N)).1, (lg9 (lgIn (drB X Y N) p s N)).2.1, (lg9 (lgIn (drB X Y N) p s N)).2.2, u.1, u.2)) (wl, way) (by omega) (s0 := ((lg9 s).1, (lg9 s).2.1, (lg9 s).2.2, nI (p + 1), wl, way)) (by rw [lgIn_0 (p + 1) (by omega)]) trivial (fun k u hk1 hk _ => by
      obtain ⟨r, er, r1⟩ := rootsAlong9 (F := F) hF hN hP hI h1 hp hk u.1 u.2
      have bd := lgIn_bd (d := drB X Y N) (p := p) (N := N) (fun q hq => dr_bd hN hI hp hq) hs k (by omega)
      have bv := dr_bd hN hI hp hk
      have e : lgIn (drB X Y N) p s (k + 1) = lgS (lgIn (drB X Y N) p s k) p k (drB X Y N p k) := if_pos (by omega)
      refine ⟨(r.2.1, r.2.2), ?_, trivial⟩
      rw [e]
      show mX9_longest_b53 F (nI N) first second xs ys (nI p) _ _ _ (nI k) u.1 u.2 = _
      unfold mX9_longest_b53
      rw [if_neg (show ¬ nI N ≤ nI k by rw [nI_leE (by omega) (by omega)]; omega), er, Option.bind_some, r1, nI_1]
      generalize lgIn (drB X Y N) p s k = t at bd
      cases t with
      | none =>
        rw [if_pos (show (lg9 none).1 < nI (drB X Y N p k) by show (-1 : Int32) < _; rw [tI_lt, tI_n (by omega), m1_toInt]; omega)]
        rfl
      | some v =>
        have hv := bd v rfl
        show (if nI v.1 < nI (drB X Y N p k) then _ else _) = _
        by_cases c : drB X Y N p k ≤ v.1
        · have e : lgS (some v) p k (drB X Y N p k) = some v := if_pos c
          rw [if_neg (by rw [nI_ltE (by omega) (by omega)]; omega), e]
        · have e : lgS (some v) p k (drB X Y N p k) = some (drB X Y N p k, p, k) := if_neg c
          rw [if_pos (by rw [nI_ltE (by omega) (by omega)]; omega), e]
          rfl) (fun u _ => by
      show mX9_longest_b53 F (nI N) first second xs ys (nI p) _ _ _ (nI N) u.1 u.2 = _
      unfold mX9_longest_b53
      rw [if_pos (show nI N ≤ nI N by rw [nI_leE (by omega) (by omega)]; omega)]) (by omega)
  exact ⟨u, e⟩
theorem longest9 {F N : Nat} {X Y : Nat → Nat} {first second xs ys : Nat → Int32} (hF : 5000 ≤ F) (hN : N ≤ 24) (hP : PT N X Y xs ys) (hI : IN N X Y) (h1 : ∀ j, j < N - 1 → first j = nI (fP (KK X Y N) j) ∧ second j = nI (fQ (KK X Y N) j)) (x1 wl : Int32) (way : Nat → Int32) :
    ∃ u : Int32 × (Nat → Int32), loop (fun s38 : Int32 × Int32 × Int32 × Int32 × Int32 × (Nat → Int32) => mX9_longest_b38 F x1 (nI N) first second xs ys s38.1 s38.2.1 s38.2.2.1 s38.2.2.2.1 s38.2.2.2.2.1 s38.2.2.2.2.2) F ((-1 : Int32), (0 : Int32), (0 : Int32), (0 : Int32), wl, way) =
      some (pk3 x1 (lg9 (lgOut (drB X Y N) N N)), 0, u.1, u.2) := by
  obtain ⟨u, e, _⟩ := lpI (body := fun s38 : Int32 × Int32 × Int32 × Int32 × Int32 × (Nat → Int32) => mX9_longest_b38 F x1 (nI N) first second xs ys s38.1 s38.2.1 s38.2.2.1 s38.2.2.2.1 s38.2.2.2.2.1 s38.2.2.2.2.2) (F := F)
    (fun k (u : Int32 × (Nat → Int32)) => ((lg9 (lgOut (drB X Y N) N k)).1, (lg9 (lgOut (drB X Y N) N k)).2.1, (lg9 (lgOut (drB X Y N) N k)).2.2, nI k, u.1, u.2)) (fun _ _ => True) 0 N
    (fun u => (pk3 x1 (lg9 (lgOut (drB X Y N) N N)), (0 : Int32), u.1, u.2)) (wl, way) (by omega) (s0 := ((-1 : Int32), (0 : Int32), (0 : Int32), (0 : Int32), wl, way)) rfl trivial (fun p u _ hp _ => by
      obtain ⟨u2, e2⟩ := lg53 (F := F) hF hN hP hI h1 hp (lgOut_bd (d := drB X Y N) (N := N) (fun p q hp hq => dr_bd hN hI hp hq) p (by omega)) u.1 u.2
      refine ⟨u2, ?_, trivial⟩
      show mX9_longest_b38 F x1 (nI N) first second xs ys _ _ _ (nI p) u.1 u.2 = _
      unfold mX9_longest_b38
      rw [if_neg (show ¬ nI N ≤ nI p by rw [nI_leE (by omega) (by omega)]; omega), nI_1, Option.bind_some, e2, Option.bind_some]
      rfl) (fun u _ => by
      show mX9_longest_b38 F x1 (nI N) first second xs ys _ _ _ (nI N) u.1 u.2 = _
      unfold mX9_longest_b38 pk3
      rw [if_pos (show nI N ≤ nI N by rw [nI_leE (by omega) (by omega)]; omega)]
      by_cases c : x1 = 0
      · rw [if_pos c, if_pos c]
      · rw [if_neg c, if_neg c]
        by_cases c2 : x1 = (1 : Int32)
        · rw [if_pos c2, if_pos c2]
        · rw [if_neg c2, if_neg c2]) (by omega)
  exact ⟨u, e⟩
theorem call_longest {F : Nat} (hF : 5000 ≤ F) : Call_longest F INV := by
  intro ca cl ci fr a1 h
  have h0 := h
  obtain ⟨N, M, S, X, Y, W, U, V, Z, ⟨g1, g2, g3, g4, g5, g6⟩, ⟨i8, i9, i15, i2, i3, i18, i19⟩, ⟨r1, r2, r3⟩, h4, h5, h6, h7⟩ := h
  have hN := g1.1
  have i2I : (2 : Int32).toInt = 2 := by decide +kernel
  have w9 := isInI9 F a1 0 2
  rw [l_0, l_2] at w9
  by_cases c : N < 2
  · have e8 : mX8_longest F a1 (ci 8) (ci 9) (ca 20) (ca 21) (ca 24) (ca 25) (ca 30) (ca 31) fr = some (-1, fr) := by
      unfold mX8_longest
      rw [i9, if_pos (show nI N < (2 : Int32) by rw [c2, nI_ltE (by omega) (by omega)]; exact c)]
    have e9 : mX9_longest F a1 (ci 14) (ci 15) (ci 20) (ca 63) (ca 70) (ca 79) (ca 81) (ca 82) = some (-1, 0, ci 20, ca 79) := by
      unfold mX9_longest
      rw [i15, if_pos (show nI N < (2 : Int32) by rw [c2, nI_ltE (by omega) (by omega)]; exact c)]
    exact ⟨_, _, e8, e9, rfl, h0⟩
  · have cn : ¬ nI N < (2 : Int32) := by rw [c2, nI_ltE (by omega) (by omega)]; exact c
    by_cases d : 0 ≤ a1.toInt ∧ a1.toInt ≤ 2
    · rw [decide_eq_true d] at w9
      obtain ⟨f, ef, gf⟩ := measure7 (F := F) (R := RR X Y N) (x2 := 1) (by omega) hN h4 i8 i9 (Or.inr ⟨rfl, rfl⟩) fr
      have gf2 : ∀ p k, p < N → k < N → f p k = nI (drB X Y N p k) ∧ drB X Y N p k ≤ 49152 := fun p k hp hk => ⟨gf p k hp hk, dr_bd hN g1.2.1 hp hk⟩
      rw [i9] at ef
      have l8 := longest8 (F := F) (by omega) hN gf2 a1
      obtain ⟨u, l9⟩ := longest9 (F := F) hF hN (rows_pt r2) g1.2.1 (fun j hj => ⟨(tr9_pq hN h6 j hj).1, (tr9_pq hN h6 j hj).2.1⟩) a1 (ci 20) (ca 79)
      have e8 : mX8_longest F a1 (ci 8) (ci 9) (ca 20) (ca 21) (ca 24) (ca 25) (ca 30) (ca 31) fr = some (pk3 a1 (lg8 (lgOut (drB X Y N) N N)), f) := by
        unfold mX8_longest
        rw [i9, if_neg cn, if_neg (by rw [tI_lt, i_0]; omega), if_pos (by rw [tI_le, i2I]; omega), ef, Option.bind_some, l8]
      have e9 : mX9_longest F a1 (ci 14) (ci 15) (ci 20) (ca 63) (ca 70) (ca 79) (ca 81) (ca 82) = some (pk3 a1 (lg9 (lgOut (drB X Y N) N N)), 0, u.1, u.2) := by
        unfold mX9_longest
        rw [i15, if_neg cn, w9, Option.bind_some, if_neg (by rw [k0T]; exact id), l9]
      refine ⟨_, _, e8, e9, ?_, h0⟩
      show pk3 a1 (lg8 (lgOut (drB X Y N) N N)) = pk3 a1 (lg9 (lgOut (drB X Y N) N N))
      have ne := lgOut_ne (d := drB X Y N) (N := N) (by omega) N (by omega)
      cases t : lgOut (drB X Y N) N N with
      | none => exact absurd t ne
      | some v => rfl
    · rw [decide_eq_false d] at w9
      have e8 : mX8_longest F a1 (ci 8) (ci 9) (ca 20) (ca 21) (ca 24) (ca 25) (ca 30) (ca 31) fr = some (-1, fr) := by
        unfold mX8_longest
        rw [i9, if_neg cn]
        by_cases q : a1 < 0
        · rw [if_pos q]
        · rw [if_neg q, if_neg]
          rw [tI_lt, i_0] at q
          rw [tI_le, i2I]
          omega
      have e9 : mX9_longest F a1 (ci 14) (ci 15) (ci 20) (ca 63) (ca 70) (ca 79) (ca 81) (ca 82) = some (-1, 0, ci 20, ca 79) := by
        unfold mX9_longest
        rw [i15, if_neg cn, w9, Option.bind_some, if_pos (by rw [k0F]; trivial)]
      exact ⟨_, _, e8, e9, rfl, h0⟩
