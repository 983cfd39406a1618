/-! ===== PURE 15: what holds between calls; easy calls ===== -/
def ROWS (N : Nat) (X Y W : Nat → Nat) (ws xs ys : Nat → Int32) : Prop := ∀ i, i < N → ws i = nI (W i) ∧ xs i = nI (X i) ∧ ys i = nI (Y i)
def GOOD (N : Nat) (X Y W : Nat → Nat) : Prop := N ≤ 24 ∧ IN N X Y ∧ (∀ i, i < N → 1 ≤ W i ∧ W i ≤ 99) ∧ ∀ i j, i < j → j < N → X i < X j ∨ X i = X j ∧ Y i < Y j
/-- a place as the reference writes it -/
def pn (X Y : Nat → Nat) (p : Nat) : Nat := 1024 * Y p + X p
def WAS (M : Nat) (U V : Nat → Nat) (place one other wide : Nat → Int32) : Prop :=
  (∀ p, p < M → place p = nI (pn U V p)) ∧ ∀ j, j < M - 1 → one j = nI (pn U V (fP (KK U V M) j)) ∧ other j = nI (pn U V (fQ (KK U V M) j)) ∧ wide j = nI (KK U V M j / 1024)
def INVB (N M S : Nat) (X Y W U V Z : Nat → Nat) (ca : CA) (cl : CL) (ci : CI) : Prop :=
  (GOOD N X Y W ∧ GOOD M U V Z ∧ S ≤ 999 ∧ ci 0 = nI S ∧ ci 16 = nI S ∧ ci 1 = ci 17) ∧
  (ci 8 = nI (N - 1) ∧ ci 9 = nI N ∧ ci 15 = nI N ∧ ci 2 = nI (M - 1) ∧ ci 3 = nI M ∧ ci 18 = nI M ∧ (ci 19 = 0 ∧ N = 0 ∧ M = 0 ∨ ci 19 = 1)) ∧
  (ROWS N X Y W (ca 26) (ca 27) (ca 28) ∧ ROWS N X Y W (ca 73) (ca 81) (ca 82) ∧ ROWS M U V Z (ca 7) (ca 8) (ca 9)) ∧
  TR2 X Y N (ca 19) (ca 20) (ca 21) (ca 22) (ca 24) (ca 25) (ca 29) (ca 30) (ca 31) (cl 5) ∧
  TR2 U V M (ca 0) (ca 1) (ca 2) (ca 3) (ca 5) (ca 6) (ca 10) (ca 11) (ca 12) (cl 2) ∧
  TR9 X Y N (ca 56) (ca 57) (ca 63) (ca 64) (ca 66) (ca 67) (ca 70) (ca 80) ∧
  WAS M U V (ca 77) (ca 74) (ca 75) (ca 78)
def INV (ca : CA) (cl : CL) (ci : CI) : Prop := ∃ N M S X Y W U V Z, INVB N M S X Y W U V Z ca cl ci
theorem rows_pt {N : Nat} {X Y W : Nat → Nat} {ws xs ys : Nat → Int32} (h : ROWS N X Y W ws xs ys) : PT N X Y xs ys := fun i hi => (h i hi).2
theorem rows_w {N : Nat} {X Y W : Nat → Nat} {ws xs ys : Nat → Int32} (h : ROWS N X Y W ws xs ys) : ∀ i, i < N → ws i = nI (W i) := fun i hi => (h i hi).1
theorem rows_eq {N : Nat} {X Y W : Nat → Nat} {ws xs ys ws' xs' ys' : Nat → Int32} (h : ROWS N X Y W ws xs ys) (h2 : ROWS N X Y W ws' xs' ys') : ∀ i, i < N → xs i = xs' i ∧ ys i = ys' i :=
  fun i hi => ⟨by rw [(h i hi).2.1, (h2 i hi).2.1], by rw [(h i hi).2.2, (h2 i hi).2.2]⟩
theorem call_state (F : Nat) : Call_state F INV := by
  intro ca cl ci fr a1 h
  obtain ⟨N, M, S, X, Y, W, U, V, Z, ⟨g1, g2, g3, g4, g5, g6⟩, h2, h3, h4, h5, h6, h7⟩ := h
  exact ⟨_, _, rfl, rfl, g6, N, M, S, X, Y, W, U, V, Z, ⟨g1, g2, g3, g4, g5, rfl⟩, h2, h3, h4, h5, h6, h7⟩
theorem call_size (F : Nat) : Call_size F INV := by
  intro ca cl ci fr a1 h
  have h0 := h
  obtain ⟨N, M, S, X, Y, W, U, V, Z, ⟨g1, g2, g3, g4, g5, g6⟩, h2, h3, h4, h5, h6, h7⟩ := h
  by_cases r : 0 ≤ a1.toInt ∧ a1.toInt ≤ 999
  · have e8 : mX8_size F a1 (ci 0) = some (ci 0, a1) := by
      unfold mX8_size
      rw [if_neg (by rw [tI_lt]; have : (0 : Int32).toInt = 0 := rfl; omega), if_pos (by rw [tI_le, c999, tI_n (by omega)]; omega)]
    have e9 : mX9_size F a1 (ci 14) (ci 16) = some (ci 16, a1, 0) := by
      unfold mX9_size
      rw [isInI9, l_0, l_999]
      simp [r, bI]
    refine ⟨_, _, e8, e9, by rw [g4, g5], N, M, a1.toInt.toNat, X, Y, W, U, V, Z, ⟨g1, g2, by omega, ?_, ?_, g6⟩, h2, h3, h4, h5, h6, h7⟩
    · exact tI_nI r.1
    · exact tI_nI r.1
  · have e8 : mX8_size F a1 (ci 0) = some (-1, ci 0) := by
      unfold mX8_size
      by_cases q : a1 < 0
      · rw [if_pos q]
      · rw [if_neg q, if_neg (by rw [tI_lt] at q; have : (0 : Int32).toInt = 0 := rfl; rw [tI_le, c999, tI_n (by omega)]; omega)]
    have e9 : mX9_size F a1 (ci 14) (ci 16) = some (-1, ci 16, 0) := by
      unfold mX9_size
      rw [isInI9, l_0, l_999]
      simp [r, bI]
    exact ⟨_, _, e8, e9, rfl, N, M, S, X, Y, W, U, V, Z, ⟨g1, g2, g3, g4, g5, g6⟩, h2, h3, h4, h5, h6, h7⟩
theorem call_at {F : Nat} (hF : 5000 ≤ F) : Call_at F INV := by
  intro ca cl ci fr a1 a2 h
  have h0 := h
  obtain ⟨N, M, S, X, Y, W, U, V, Z, ⟨g1, g2, g3, g4, g5, g6⟩, ⟨i8, i9, i15, i2, i3, i18, i19⟩, ⟨r1, r2, r3⟩, h4, h5, h6, h7⟩ := h
  have e8 : mX8_at F a1 a2 (ci 9) (ca 27) (ca 28) = some (oI (fstB (fun i => decide (ca 27 i = a1) && decide (ca 28 i = a2)) N)) := by
    unfold mX8_at
    rw [i9, find4 (by omega) g1.1]
    rfl
  have e9 : mX9_at F a1 a2 (ci 14) (ci 15) (ca 81) (ca 82) = some (oI (fstB (fun i => decide (ca 81 i = a1) && decide (ca 82 i = a2)) N), 0) := by
    unfold mX9_at
    rw [i15, find9 (by omega) g1.1]
    rfl
  refine ⟨_, _, e8, e9, congrArg oI (fstB_congr (fun k hk => ?_)), h0⟩
  have := rows_eq r1 r2 k hk
  rw [this.1, this.2]
theorem call_weigh {F : Nat} (hF : 5000 ≤ F) : Call_weigh F INV := by
  intro ca cl ci fr a1 a2 h
  have h0 := h
  obtain ⟨N, M, S, X, Y, W, U, V, Z, ⟨g1, g2, g3, g4, g5, g6⟩, ⟨i8, i9, i15, i2, i3, i18, i19⟩, ⟨r1, r2, r3⟩, h4, h5, h6, h7⟩ := h
  have p8 := isPoint8 F g1.1 a1
  have p9 := isPoint9 F g1.1 a1
  have w8 := isWeight8 F a2
  have w9 := isInI9 F a2 1 99
  rw [l_1, l_99] at w9
  by_cases c : (0 ≤ a1.toInt ∧ a1.toInt < N) ∧ 1 ≤ a2.toInt ∧ a2.toInt ≤ 99
  · obtain ⟨p, hp, rfl⟩ : ∃ p, p < N ∧ a1 = nI p := (pt_or a1 (N := N) (by have := g1.1; omega)).resolve_right (by omega)
    have ew : a2 = nI a2.toInt.toNat := tI_nI (by omega)
    have hN := g1.1
    have ⟨x1, x2, x3⟩ := r1 p hp
    have ⟨y1, y2, y3⟩ := r2 p hp
    have e8 : mX8_weigh F (nI p) a2 (ci 9) (ca 26) = some (nI (W p), upd (ca 26) p a2) := by
      unfold mX8_weigh
      rw [i9, p8, w8]
      simp (disch := omega) [bI_0, c.1, c.2, rdI_n, wrI_n, x1]
    have e9 : mX9_weigh F (nI p) a2 (ci 14) (ci 15) (ca 73) = some (nI (W p), 0, upd (ca 73) p a2) := by
      unfold mX9_weigh
      rw [i15, p9, w9]
      simp (disch := omega) [bI_0, c.1, c.2, rdI_n, wrI_n, y1]
    refine ⟨_, _, e8, e9, rfl, N, M, S, X, Y, fun i => if i = p then a2.toInt.toNat else W i, U, V, Z, ⟨⟨g1.1, g1.2.1, fun i hi => ?_, g1.2.2.2⟩, g2, g3, g4, g5, g6⟩, ⟨i8, i9, i15, i2, i3, i18, i19⟩, ⟨fun i hi => ?_, fun i hi => ?_, r3⟩, h4, h5, h6, h7⟩
    · simp only []
      by_cases e : i = p
      · rw [if_pos e]; omega
      · rw [if_neg e]; exact g1.2.2.1 i hi
    · have := r1 i hi
      refine ⟨?_, this.2⟩
      show upd (ca 26) p a2 i = _
      simp only []
      by_cases e : i = p
      · subst e; rw [pk_us, if_pos rfl]; exact ew
      · rw [pk_un e, if_neg e]; exact this.1
    · have := r2 i hi
      refine ⟨?_, this.2⟩
      show upd (ca 73) p a2 i = _
      simp only []
      by_cases e : i = p
      · subst e; rw [pk_us, if_pos rfl]; exact ew
      · rw [pk_un e, if_neg e]; exact this.1
  · have e8 : mX8_weigh F a1 a2 (ci 9) (ca 26) = some (-1, ca 26) := by
      unfold mX8_weigh
      rw [i9, p8, w8]
      by_cases q : 0 ≤ a1.toInt ∧ a1.toInt < N
      · have q2 : ¬ (1 ≤ a2.toInt ∧ a2.toInt ≤ 99) := fun q2 => c ⟨q, q2⟩
        simp only [Option.bind_some, bI_0, decide_eq_false_iff_not, q, q2, not_true_eq_false, not_false_eq_true, if_true, if_false]
        simp
      · simp only [Option.bind_some, bI_0, decide_eq_false_iff_not, q, not_false_eq_true, if_true]
    have e9 : mX9_weigh F a1 a2 (ci 14) (ci 15) (ca 73) = some (-1, 0, ca 73) := by
      unfold mX9_weigh
      rw [i15, p9, w9]
      by_cases q : 0 ≤ a1.toInt ∧ a1.toInt < N
      · have q2 : ¬ (1 ≤ a2.toInt ∧ a2.toInt ≤ 99) := fun q2 => c ⟨q, q2⟩
        simp only [Option.bind_some, bI_0, decide_eq_false_iff_not, q, q2, not_true_eq_false, not_false_eq_true, if_true, if_false]
        simp
      · simp only [Option.bind_some, bI_0, decide_eq_false_iff_not, q, not_false_eq_true, if_true]
    exact ⟨_, _, e8, e9, rfl, N, M, S, X, Y, W, U, V, Z, ⟨g1, g2, g3, g4, g5, g6⟩, ⟨i8, i9, i15, i2, i3, i18, i19⟩, ⟨r1, r2, r3⟩, h4, h5, h6, h7⟩
