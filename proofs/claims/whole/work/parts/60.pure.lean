/-! ===== PURE 51: call best ===== -/
theorem best_in (F : Nat) (a1 : Int32) {C : Nat} (hC : C ≤ 24) : mX9_isIn F a1.toInt64 (10 : Int64) ((9 : Int64) + (nI C).toInt64) = some (bI (decide (10 ≤ a1.toInt ∧ a1.toInt ≤ 9 + (C : Int)))) := by
  have e : ((9 : Int64) + (nI C).toInt64).toInt = 9 + (C : Int) := by
    rw [Int64.toInt_add, Int32.toInt_toInt64, tI_n (by omega), l_9]
    rw [Int.bmod_eq_of_le] <;> omega
  rw [isInI9, e, l_10]
theorem best_pair {F N : Nat} {X Y W : Nat → Nat} {g arr : Nat → Int32} (hF : 1000 ≤ F) (hN : N ≤ 24) (hg : ∀ l, l < N → g l = slotB X Y W N (N - 1) l)
    (hL : LSTQ N (fT X Y W N (N - 1)) (hdF X Y W N) (nI (cntB (hdF X Y W N) N), arr)) (a1 : Int32) (h10 : ¬ a1 < (10 : Int32)) :
    ∃ v, mX1_nth F (a1 - (10 : Int32)) (nI N) g = some v ∧
      ((10 ≤ a1.toInt ∧ a1.toInt ≤ 9 + (cntB (hdF X Y W N) N : Int)) → rdI 24 arr (a1 - (10 : Int32)) = some v) ∧ (¬ (10 ≤ a1.toInt ∧ a1.toInt ≤ 9 + (cntB (hdF X Y W N) N : Int)) → v = -1) := by
  have hc := cntB_le (hdF X Y W N) N
  have t10 : 10 ≤ a1.toInt := by
    rw [tI_lt, i_10] at h10
    omega
  have r := tI_rng a1
  have e10 : (a1 - (10 : Int32)).toInt = a1.toInt - 10 := tI_sub rfl i_10 (by omega) (by omega)
  have n1 := nth1 (F := F) hF hN (a1 - (10 : Int32)) g
  refine ⟨_, n1, fun c => ?_, fun c => ?_⟩
  · obtain ⟨m, hm⟩ : ∃ m : Nat, m = (a1.toInt - 10).toNat := ⟨_, rfl⟩
    have em : a1 - (10 : Int32) = nI m := by
      rw [tI_nI (x := a1 - (10 : Int32)) (by omega), e10, hm]
    have hm2 : m < cntB (hdF X Y W N) N := by omega
    rw [em, rdI_n (by omega) (by omega)]
    exact congrArg some (slot_nth hN hg hL.2 hm2).symm
  · have e : fstB (fun k => !decide (g k = -1) && decide (nI (cntB (fun l => !decide (g l = -1)) k) = a1 - (10 : Int32))) N = none := fstB_none.mpr (fun k hk => by
      rw [slot_q hN hk hg, cntB_congr (n := k) (fun l hl => slot_q hN (by omega) hg)]
      have b := cntB_le (hdF X Y W N) k
      cases q : hdF X Y W N k with
      | false => rfl
      | true =>
        have l1 := cnt_lt1 (q := hdF X Y W N) hk q
        rw [Bool.true_and]
        refine decide_eq_false (fun f => ?_)
        have f2 : (nI (cntB (hdF X Y W N) k)).toInt = a1.toInt - 10 := by rw [f, e10]
        rw [tI_n (by omega)] at f2
        omega)
    rw [e]
theorem best8 {F : Nat} {a1 tt tc c n v : Int32} {nbl op tot wh fs ja os parts ws pa roots : Nat → Int32} {r : Int32 × Int32 × (Nat → Int32) × (Nat → Int32) × (Nat → Int32) × (Nat → Int32)} (e : mX1_choose F tt tc c n nbl op tot wh fs ja os parts ws pa roots = some r)
    (en : ¬ a1 < (10 : Int32) → mX1_nth F (a1 - (10 : Int32)) n r.2.2.1 = some v) :
    mX8_best F a1 tt tc c n nbl op tot wh fs ja os parts ws pa roots = some (if a1 = 0 then r.2.1 else if a1 = (1 : Int32) then r.1 else if a1 < (10 : Int32) then -1 else v, r.1, r.2.1, r.2.2.1, r.2.2.2.1, r.2.2.2.2.1, r.2.2.2.2.2) := by
  unfold mX8_best
  rw [e, Option.bind_some]
  by_cases q0 : a1 = 0
  · rw [if_pos q0, if_pos q0]
  · rw [if_neg q0, if_neg q0]
    by_cases q1 : a1 = (1 : Int32)
    · rw [if_pos q1, if_pos q1]
    · rw [if_neg q1, if_neg q1]
      by_cases q2 : a1 < (10 : Int32)
      · rw [if_pos q2, if_pos q2]
      · rw [if_neg q2, if_neg q2, en q2, Option.bind_some]
theorem best9j {F C N : Nat} {a1 n y v T told : Int32} {aj ap made one other w wide arr : Nat → Int32} (hC : C ≤ 24) (hN : N ≤ 24) (hn : n = nI N) (hT : N ≠ 0 → mX9_bestOf F 30 y n aj ap made one other w wide = some T) (hT0 : N = 0 → T = 0)
    (h1 : ¬ a1 < (10 : Int32) → (10 ≤ a1.toInt ∧ a1.toInt ≤ 9 + (C : Int)) → rdI 24 arr (a1 - (10 : Int32)) = some v) (h2 : ¬ a1 < (10 : Int32) → ¬ (10 ≤ a1.toInt ∧ a1.toInt ≤ 9 + (C : Int)) → v = -1) :
    mX9_best_j44 F a1 n aj ap made one other w wide y (nI C) told arr = some (if a1 = 0 then T else if a1 = (1 : Int32) then nI C else if a1 < (10 : Int32) then -1 else v, nI C, told, arr) := by
  unfold mX9_best_j44
  by_cases q0 : a1 = 0
  · rw [if_pos q0, if_pos q0]
    by_cases z : N = 0
    · rw [if_pos (by rw [hn, z]; rfl), hT0 z]
    · rw [if_neg (by rw [hn, nI_eq0 (by omega)]; exact z), hT z, Option.bind_some]
  · rw [if_neg q0, if_neg q0]
    by_cases q1 : a1 = (1 : Int32)
    · rw [if_pos q1, if_pos q1]
    · rw [if_neg q1, if_neg q1, best_in F a1 hC, Option.bind_some]
      by_cases q2 : a1 < (10 : Int32)
      · have t := q2
        rw [tI_lt, i_10] at t
        rw [if_pos q2, decide_eq_false (by omega), if_pos (by rw [k0F]; trivial)]
      · rw [if_neg q2]
        by_cases q3 : 10 ≤ a1.toInt ∧ a1.toInt ≤ 9 + (C : Int)
        · rw [decide_eq_true q3, if_neg (by rw [k0T]; exact id), h1 q2 q3, Option.bind_some]
        · rw [decide_eq_false q3, if_pos (by rw [k0F]; trivial), h2 q2 q3]
theorem call_best {F : Nat} (hF : 5000 ≤ F) : Call_best F INV := by
  intro ca cl ci fr a1 h
  have h0 := h
  obtain ⟨N, M, S, X, Y, W, U, V, Z, ⟨g1, g2, g3, g4, g5, g6⟩, ⟨i8, i9, i15, i2, i3, i18, i19⟩, ⟨r1, r2, r3⟩, h4, h5, h6, h7⟩ := h
  have hN := g1.1
  rcases Nat.eq_zero_or_pos N with z | h1
  · subst z
    obtain ⟨t1, e1, k1⟩ := clr12 (F := F) (N := 0) (by omega) (by omega) (ca 16)
    obtain ⟨t2, e2, k2⟩ := tot38 (F := F) (W := W) (by omega) hN h4 (rows_w r1) (ca 17) (ca 18) (ca 83)
    have ec : mX1_choose F (ci 6) (ci 7) (ci 8) (ci 9) (ca 16) (ca 17) (ca 18) (ca 83) (ca 20) (ca 22) (ca 24) (ca 25) (ca 26) (ca 29) (ca 30) = some ((0 : Int32), (0 : Int32), t1, t2.1, t2.2.1, t2.2.2) := by
      unfold mX1_choose
      rw [i8, i9, e1, Option.bind_some, e2, Option.bind_some, if_pos (show nI (0 - 1) ≤ 0 by decide +kernel), if_pos (show nI 0 ≤ 0 by decide +kernel)]
    have e8 := best8 (a1 := a1) (v := -1) ec (fun _ => by rw [i9]; exact nth1 (N := 0) (by omega) (by omega) _ _)
    have e9 : mX9_best F a1 (ci 14) (ci 15) (ci 22) (ca 56) (ca 57) (ca 61) (ca 64) (ca 66) (ca 67) (ca 73) (ca 80) = some (if a1 = 0 then 0 else if a1 = (1 : Int32) then nI 0 else if a1 < (10 : Int32) then -1 else -1, nI 0, 0, ca 61) := by
      unfold mX9_best
      rw [i15, if_neg (show ¬ nI 0 = (1 : Int32) by decide +kernel)]
      unfold mX9_best_j31
      rw [if_pos (show nI 0 ≤ 0 by decide +kernel)]
      exact best9j (C := 0) (N := 0) (by omega) (by omega) rfl (fun h => absurd rfl h) (fun _ => rfl) (fun _ h => absurd h (by omega)) (fun _ _ => rfl)
    exact ⟨_, _, e8, e9, rfl, h0⟩
  · obtain ⟨r, ec, s1, s2, s3⟩ := chooseN (F := F) (W := W) (by omega) hN h1 h4 (rows_w r1) (ci 6) (ci 7) (ca 16) (ca 17) (ca 18) (ca 83)
    obtain ⟨r', hL, e9⟩ := best9_pre (F := F) hF hN h1 g1.2.1 h6 (rows_w r2) a1 (ci 14) (ci 22) (ca 61)
    obtain ⟨_, eb⟩ := takeAll9 (F := F) hF hN h1 g1.2.1 h6 (rows_w r2) (ca 61)
    have hc := cntB_le (hdF X Y W N) N
    have hL0 := hL.1
    have er : r' = (nI (cntB (hdF X Y W N) N), r'.2) := by rw [← hL0]
    rw [er] at hL
    have sc := slot_cnt hN s1
    have hex : ∃ v, (¬ a1 < (10 : Int32) → mX1_nth F (a1 - (10 : Int32)) (nI N) r.2.2.1 = some v) ∧
      (¬ a1 < (10 : Int32) → (10 ≤ a1.toInt ∧ a1.toInt ≤ 9 + (cntB (hdF X Y W N) N : Int)) → rdI 24 r'.2 (a1 - (10 : Int32)) = some v) ∧ (¬ a1 < (10 : Int32) → ¬ (10 ≤ a1.toInt ∧ a1.toInt ≤ 9 + (cntB (hdF X Y W N) N : Int)) → v = -1) := by
      by_cases q : a1 < (10 : Int32)
      · exact ⟨0, fun h => absurd q h, fun h => absurd q h, fun h => absurd q h⟩
      · obtain ⟨v, v1, v2, v3⟩ := best_pair (F := F) (by omega) hN s1 hL a1 q
        exact ⟨v, fun _ => v1, fun _ => v2, fun _ => v3⟩
    obtain ⟨v, v1, v2, v3⟩ := hex
    rw [← i8, ← i9] at ec
    rw [← i9] at v1
    have e8 := best8 (a1 := a1) (v := v) ec v1
    rw [s3] at e8
    rw [hL0, best9j (T := btV X Y W N (rootN N)) (by omega) hN rfl (fun _ => eb) (fun h => absurd h (by omega)) v2 v3, ← i15] at e9
    refine ⟨_, _, e8, e9, ?_, h0⟩
    show (if a1 = 0 then btV X Y W N (rootN N) else if a1 = (1 : Int32) then r.1 else if a1 < (10 : Int32) then -1 else v) = _
    rw [s2, sc]
