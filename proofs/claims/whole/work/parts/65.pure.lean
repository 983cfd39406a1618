/-! ===== PURE 56: call path ===== -/
theorem path_b {F N p q i : Nat} {X Y : Nat → Nat} {f : Nat → Nat → Int32} {w : Nat} (hF : 1000 ≤ F) (hN : N ≤ 24) (hp : p < N) (hq : q < N) (hf : ∀ x y, x < N → y < N → f x y = nI (dlB X Y N x y)) (hi : i ≤ dlB X Y N p q)
    (hw : w < N) (h1 : dlB X Y N p w = i) (h2 : dlB X Y N w q + i = dlB X Y N p q) :
    loop (fun s66 => mX8_path_b66 F (nI p) (nI q) (nI i) (nI N) f (nI (dlB X Y N p q)) s66) F (0 : Int32) = some (nI w, f) := by
  have H := for_all (X := X) (Y := Y) hN
  have bd : ∀ x y, x < N → y < N → dlB X Y N x y < N := fun x y hx hy => for_bd H (N := N) (fun x y h => h.2) (x := x) (y := y) ⟨hx, hy⟩
  have hpq := bd p q hp hq
  have e := lpS (body := fun s66 => mX8_path_b66 F (nI p) (nI q) (nI i) (nI N) f (nI (dlB X Y N p q)) s66) (F := F) (s0 := (0 : Int32)) (fun k => nI k) (fun v => decide (dlB X Y N p v = i) && decide (dlB X Y N v q = dlB X Y N p q - i)) N (fun k => (nI k, f)) ((-1 : Int32), f) rfl (fun k hk _ => by
      have b1 := bd p k hp hk
      have b2 := bd k q hk hq
      unfold mX8_path_b66
      rw [if_neg (show ¬ nI N ≤ nI k by rw [nI_leE (by omega) (by omega)]; omega), ck_n (by omega), Option.bind_some, tn_n (by omega), rdI_n (by omega) (by omega), Option.bind_some, hf p k hp hk]
      by_cases c : dlB X Y N p k = i
      · rw [if_pos (by rw [c]), ck_n (by omega), Option.bind_some, tn_n (by omega), rdI_n (by omega) (by omega), Option.bind_some, hf k q hk hq, pk_sub hi, decide_eq_true c, Bool.true_and]
        by_cases c2 : dlB X Y N k q = dlB X Y N p q - i
        · rw [if_pos (by rw [c2]), decide_eq_true c2, if_pos rfl]
        · rw [if_neg (by rw [nI_eqE (by omega) (by omega)]; exact c2), decide_eq_false c2, if_neg Bool.false_ne_true, nI_1]
      · rw [if_neg (by rw [nI_eqE (by omega) (by omega)]; exact c), decide_eq_false c, Bool.false_and, if_neg Bool.false_ne_true, nI_1]) (fun _ => by
      unfold mX8_path_b66
      rw [if_pos (show nI N ≤ nI N by rw [nI_leE (by omega) (by omega)]; omega)]) (by omega)
  have s : fstB (fun v => decide (dlB X Y N p v = i) && decide (dlB X Y N v q = dlB X Y N p q - i)) N = some w := fstB_some.mpr ⟨hw, by rw [decide_eq_true h1, decide_eq_true (show dlB X Y N w q = dlB X Y N p q - i by omega)]; rfl, fun j hj => by
    by_cases c : dlB X Y N p j = i
    · by_cases c2 : dlB X Y N j q = dlB X Y N p q - i
      · have := for_uniq H (q := q) i p j w ⟨hp, by omega⟩ ⟨hp, hw⟩ ⟨hp, hq⟩ c h1 (by omega) h2
        omega
      · rw [decide_eq_false c2, Bool.and_false]
    · rw [decide_eq_false c, Bool.false_and]⟩
  rw [s] at e
  exact e
theorem call_path {F : Nat} (hF : 5000 ≤ F) : Call_path F INV := by
  intro ca cl ci fr a1 a2 a3 h
  have h0 := h
  obtain ⟨N, M, S, X, Y, W, U, V, Z, ⟨g1, g2, g3, g4, g5, g6⟩, ⟨i8, i9, i15, i2, i3, i18, i19⟩, ⟨r1, r2, r3⟩, h4, h5, h6, h7⟩ := h
  have hN := g1.1
  have p8 := isPoint8 F hN a1
  have p9 := isPoint9 F hN a1
  by_cases c : 0 ≤ a1.toInt ∧ a1.toInt < N
  · rw [decide_eq_true c] at p8 p9
    obtain ⟨p, hp, rfl⟩ : ∃ p, p < N ∧ a1 = nI p := (pt_or a1 (N := N) (by omega)).resolve_right (by omega)
    have q8 := isPoint8 F hN a2
    have q9 := isPoint9 F hN a2
    by_cases c2 : 0 ≤ a2.toInt ∧ a2.toInt < N
    · rw [decide_eq_true c2] at q8 q9
      obtain ⟨q, hq, rfl⟩ : ∃ p, p < N ∧ a2 = nI p := (pt_or a2 (N := N) (by omega)).resolve_right (by omega)
      obtain ⟨f, ef, gf⟩ := measure7 (F := F) (R := fun _ => 1) (x2 := 0) (by omega) hN h4 i8 i9 (Or.inl ⟨rfl, rfl⟩) fr
      have gf2 : ∀ x y, x < N → y < N → f x y = nI (dlB X Y N x y) := gf
      rw [i9] at ef
      obtain ⟨r, er, k1, w, w1, w2⟩ := goesAll9 (F := F) (by omega) hN (fun j hj => ⟨(tr9_pq hN h6 j hj).1, (tr9_pq hN h6 j hj).2.1⟩) hp hq (ca 79)
      have hD := for_bd (for_all (X := X) (Y := Y) hN) (N := N) (fun x y h => h.2) (x := p) (y := q) ⟨hp, hq⟩
      have e8 : mX8_path F (nI p) (nI q) a3 (ci 8) (ci 9) (ca 20) (ca 21) (ca 24) (ca 25) (ca 30) (ca 31) fr = if a3 = (-1 : Int32) then (some (nI (dlB X Y N p q), f)) else (if a3 < 0 then (some ((-1 : Int32), f)) else (if a3 ≤ nI (dlB X Y N p q) then (loop (fun s66 => mX8_path_b66 F (nI p) (nI q) a3 (nI N) f (nI (dlB X Y N p q)) s66) F (0 : Int32)) else (some ((-1 : Int32), f)))) := by
        unfold mX8_path
        rw [i9, p8, Option.bind_some, if_neg (by rw [k0T]; exact id), q8, Option.bind_some, if_neg (by rw [k0T]; exact id), ef, Option.bind_some, ck_n (by omega), Option.bind_some, tn_n (by omega), rdI_n (by omega) (by omega), Option.bind_some, gf2 p q hp hq]
      have w9 := isInI9 F a3 0 ((nI (dlB X Y N p q + 1)).toInt64 - (1 : Int64))
      rw [l_0, nl_1 (by omega)] at w9
      have e9 : mX9_path F (nI p) (nI q) a3 (ci 14) (ci 15) (ci 20) (ca 63) (ca 70) (ca 79) = if a3 = (-1 : Int32) then (some (nI (dlB X Y N p q), (0 : Int32), r.2.1, r.2.2)) else (if bI (decide (0 ≤ a3.toInt ∧ a3.toInt ≤ ((dlB X Y N p q + 1 : Nat) : Int) - 1)) = 0 then (some ((-1 : Int32), (0 : Int32), r.2.1, r.2.2)) else ((rdI 24 r.2.2 a3).bind fun v9 => some (v9, (0 : Int32), r.2.1, r.2.2))) := by
        unfold mX9_path
        rw [i15, p9, Option.bind_some, if_neg (by rw [k0T]; exact id), q9, Option.bind_some, if_neg (by rw [k0T]; exact id), er, Option.bind_some, k1, w9, Option.bind_some, nI_pred]
      by_cases c3 : a3 = (-1 : Int32)
      · rw [if_pos c3] at e8 e9
        exact ⟨_, _, e8, e9, rfl, h0⟩
      · rw [if_neg c3] at e8 e9
        by_cases c4 : 0 ≤ a3.toInt ∧ a3.toInt ≤ ((dlB X Y N p q + 1 : Nat) : Int) - 1
        · rw [decide_eq_true c4, if_neg (by rw [k0T]; exact id)] at e9
          obtain ⟨i, hi, rfl⟩ : ∃ i : Nat, i ≤ dlB X Y N p q ∧ a3 = nI i := ⟨a3.toInt.toNat, by omega, tI_nI (by omega)⟩
          have ⟨j1, j2, j3, j4⟩ := w1 i hi
          rw [Nat.zero_add] at j1
          rw [rdI_n (by omega) (by omega), Option.bind_some, j1] at e9
          rw [if_neg (by rw [nI_lt0 (by omega)]; exact id), if_pos (by rw [nI_leE (by omega) (by omega)]; exact hi), path_b (F := F) (by omega) hN hp hq gf2 hi j2 j3 j4] at e8
          exact ⟨_, _, e8, e9, rfl, h0⟩
        · rw [decide_eq_false c4, if_pos (by rw [k0F]; trivial)] at e9
          have e8' : mX8_path F (nI p) (nI q) a3 (ci 8) (ci 9) (ca 20) (ca 21) (ca 24) (ca 25) (ca 30) (ca 31) fr = some ((-1 : Int32), f) := by
            rw [e8]
            by_cases c5 : a3 < 0
            · rw [if_pos c5]
            · rw [if_neg c5, if_neg]
              rw [tI_lt, i_0] at c5
              rw [tI_le, tI_n (by omega)]
              omega
          exact ⟨_, _, e8', e9, rfl, h0⟩
    · rw [decide_eq_false c2] at q8 q9
      have e8 : mX8_path F (nI p) a2 a3 (ci 8) (ci 9) (ca 20) (ca 21) (ca 24) (ca 25) (ca 30) (ca 31) fr = some (-1, fr) := by
        unfold mX8_path
        rw [i9, p8, Option.bind_some, if_neg (by rw [k0T]; exact id), q8, Option.bind_some, if_pos (by rw [k0F]; trivial)]
      have e9 : mX9_path F (nI p) a2 a3 (ci 14) (ci 15) (ci 20) (ca 63) (ca 70) (ca 79) = some (-1, 0, ci 20, ca 79) := by
        unfold mX9_path
        rw [i15, p9, Option.bind_some, if_neg (by rw [k0T]; exact id), q9, Option.bind_some, if_pos (by rw [k0F]; trivial)]
      exact ⟨_, _, e8, e9, rfl, h0⟩
  · rw [decide_eq_false c] at p8 p9
    have e8 : mX8_path F a1 a2 a3 (ci 8) (ci 9) (ca 20) (ca 21) (ca 24) (ca 25) (ca 30) (ca 31) fr = some (-1, fr) := by
      unfold mX8_path
      rw [i9, p8, Option.bind_some, if_pos (by rw [k0F]; trivial)]
    have e9 : mX9_path F a1 a2 a3 (ci 14) (ci 15) (ci 20) (ca 63) (ca 70) (ca 79) = some (-1, 0, ci 20, ca 79) := by
      unfold mX9_path
      rw [i15, p9, Option.bind_some, if_pos (by rw [k0F]; trivial)]
    exact ⟨_, _, e8, e9, rfl, h0⟩
