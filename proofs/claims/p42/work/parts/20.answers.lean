/-! ===== p42: what the calls answer of a map ===== -/
def IS (v : Int32) (h : OB) : Int32 → OB → Prop := fun x o => x = v ∧ o = h
theorem ok8 {N : Nat} {X Y W : Nat → Nat} {ca : CA} {cl : CL} {ci : CI} (h : OK8 (N, X, Y, W) ca cl ci) : ∃ M U V Z, OK8B N X Y W M U V Z ca cl ci := h
def OKO (h : OB) : Prop := OKM h.1 h.2.1 h.2.2.1 h.2.2.2
theorem ok8_M {h : OB} {ca : CA} {cl : CL} {ci : CI} (g : OK8 h ca cl ci) : OKO h := by
  obtain ⟨M, U, V, Z, g1, _⟩ := g
  exact g1
theorem rows_cut {N : Nat} {X Y W : Nat → Nat} {ws xs ys : Nat → Int32} (h : ROWS N X Y W ws xs ys) : ROWS N (cutN N X) (cutN N Y) (cutN N W) ws xs ys := fun i hi => by
  rw [cutN_lt hi, cutN_lt hi, cutN_lt hi]
  exact h i hi
theorem good_cut {N : Nat} {X Y W : Nat → Nat} (h : GOOD N X Y W) : GOOD N (cutN N X) (cutN N Y) (cutN N W) :=
  ⟨h.1, fun i hi => by rw [cutN_lt hi, cutN_lt hi]; exact h.2.1 i hi, fun i hi => by rw [cutN_lt hi]; exact h.2.2.1 i hi, fun i j hij hj => by
    rw [cutN_lt hj, cutN_lt hj, cutN_lt (show i < N by omega), cutN_lt (show i < N by omega)]
    exact h.2.2.2 i j hij hj⟩
theorem okm_cut {N : Nat} {X Y W : Nat → Nat} (h : GOOD N X Y W) : OKM N (cutN N X) (cutN N Y) (cutN N W) := ⟨good_cut h, cutN_cut _ _, cutN_cut _ _, cutN_cut _ _⟩
def insO (N : Nat) (X Y W : Nat → Nat) (a b w : Nat) : OB := (N + 1, cutN (N + 1) (insB X (ipB X Y a b N) a), cutN (N + 1) (insB Y (ipB X Y a b N) b), cutN (N + 1) (insB W (ipB X Y a b N) w))
def delO (N : Nat) (X Y W : Nat → Nat) (p : Nat) : OB := (N - 1, cutN (N - 1) (delB X p), cutN (N - 1) (delB Y p), cutN (N - 1) (delB W p))
theorem ans_look0 {F N : Nat} {X Y W : Nat → Nat} : Ans_look F (N, X, Y, W) 0 (IS (nI N) (N, X, Y, W)) := by
  intro ca cl ci fr h0
  obtain ⟨M, U, V, Z, ⟨g1, gc⟩, g2, ⟨i8, i9, i2, i3⟩, ⟨r1, r3⟩, h4, h5⟩ := ok8 h0
  have hN := g1.1
  have fi : mX6_first F (nI N) = some (nI (2 ^ N - 1)) := by unfold mX6_first; rw [allN hN]
  refine ⟨nI N, ?_, _, ⟨rfl, rfl⟩, h0⟩
  simp only [mX8_look, i9, fi, Option.bind_some, if_true]
theorem ans_look1 {F N : Nat} (hF : 5000 ≤ F) {X Y W : Nat → Nat} : Ans_look F (N, X, Y, W) 1 (IS (nI (wtB W (2 ^ N - 1) N)) (N, X, Y, W)) := by
  intro ca cl ci fr h0
  obtain ⟨M, U, V, Z, ⟨g1, gc⟩, g2, ⟨i8, i9, i2, i3⟩, ⟨r1, r3⟩, h4, h5⟩ := ok8 h0
  have hN := g1.1
  have hall : 2 ^ N - 1 < 2 ^ 31 := by
    have : 2 ^ N ≤ 2 ^ 24 := Nat.pow_le_pow_right (by omega) hN
    omega
  have fi : mX6_first F (nI N) = some (nI (2 ^ N - 1)) := by unfold mX6_first; rw [allN hN]
  have q0 : ¬ (1 : Int32) = 0 := by decide +kernel
  refine ⟨nI (wtB W (2 ^ N - 1) N), ?_, _, ⟨rfl, rfl⟩, h0⟩
  simp only [mX8_look, i9, fi, Option.bind_some, q0, if_false, if_true]
  rw [weight4 (by omega) hN hall (rows_w r1), Option.bind_some]
theorem ans_look4 {F N : Nat} (hF : 5000 ≤ F) {X Y W : Nat → Nat} : Ans_look F (N, X, Y, W) 4 (IS (nI (sumB (AA X Y N) (N - 1))) (N, X, Y, W)) := by
  intro ca cl ci fr h0
  obtain ⟨M, U, V, Z, ⟨g1, gc⟩, g2, ⟨i8, i9, i2, i3⟩, ⟨r1, r3⟩, h4, h5⟩ := ok8 h0
  have hN := g1.1
  have fi : mX6_first F (nI N) = some (nI (2 ^ N - 1)) := by unfold mX6_first; rw [allN hN]
  have q0 : ¬ (4 : Int32) = 0 := by decide +kernel
  have q1 : ¬ (4 : Int32) = 1 := by decide +kernel
  have q2 : ¬ (4 : Int32) = 2 := by decide +kernel
  have q3 : ¬ (4 : Int32) = 3 := by decide +kernel
  refine ⟨nI (sumB (AA X Y N) (N - 1)), ?_, _, ⟨rfl, rfl⟩, h0⟩
  simp only [mX8_look, i8, i9, fi, Option.bind_some, q0, q1, q2, q3, if_false, if_true]
  rw [sumA2 (A := AA X Y N) (by omega) (by omega) (fun j hj => (tr2_A hN g1.2.1 h4 j hj).1), Option.bind_some]
theorem ans_look8 {F N : Nat} (hF : 5000 ≤ F) {X Y W : Nat → Nat} : Ans_look F (N, X, Y, W) 8 (IS (nI (gaB X Y N 11)) (N, X, Y, W)) := by
  intro ca cl ci fr h0
  obtain ⟨M, U, V, Z, ⟨g1, gc⟩, g2, ⟨i8, i9, i2, i3⟩, ⟨r1, r3⟩, h4, h5⟩ := ok8 h0
  have hN := g1.1
  have fi : mX6_first F (nI N) = some (nI (2 ^ N - 1)) := by unfold mX6_first; rw [allN hN]
  have q0 : ¬ (8 : Int32) = 0 := by decide +kernel
  have q1 : ¬ (8 : Int32) = 1 := by decide +kernel
  have q2 : ¬ (8 : Int32) = 2 := by decide +kernel
  have q3 : ¬ (8 : Int32) = 3 := by decide +kernel
  have q4 : ¬ (8 : Int32) = 4 := by decide +kernel
  have q5 : ¬ (8 : Int32) = 5 := by decide +kernel
  have q6 : ¬ (8 : Int32) = 6 := by decide +kernel
  have q7 : ¬ (8 : Int32) = 7 := by decide +kernel
  refine ⟨nI (gaB X Y N 11), ?_, _, ⟨rfl, rfl⟩, h0⟩
  simp only [mX8_look, i8, i9, fi, Option.bind_some, q0, q1, q2, q3, q4, q5, q6, q7, if_false, if_true]
  rw [all8 (by omega) hN (tr2_A hN g1.2.1 h4), Option.bind_some]
/-- the point at a place -/
def atB (N : Nat) (X Y : Nat → Nat) (x y : Nat) : Option Nat := fstB (fun i => decide (X i = x) && decide (Y i = y)) N
theorem ans_at {F N x y : Nat} (hF : 5000 ≤ F) (hx : x < 2000) (hy : y < 2000) {X Y W : Nat → Nat} : Ans_at F (N, X, Y, W) (nI x) (nI y) (IS (oI (atB N X Y x y)) (N, X, Y, W)) := by
  intro ca cl ci fr h0
  obtain ⟨M, U, V, Z, ⟨g1, gc⟩, g2, ⟨i8, i9, i2, i3⟩, ⟨r1, r3⟩, h4, h5⟩ := ok8 h0
  have hN := g1.1
  refine ⟨oI (atB N X Y x y), ?_, _, ⟨rfl, rfl⟩, h0⟩
  unfold mX8_at
  rw [i9, find4 (by omega) hN]
  unfold atB
  rw [fstB_congr (p := fun i => decide (ca 27 i = nI x) && decide (ca 28 i = nI y)) (q := fun i => decide (X i = x) && decide (Y i = y)) (fun k hk => by
    have ⟨_, a, b⟩ := r1 k hk
    have ⟨c, d⟩ := g1.2.1 k hk
    rw [a, b, decide_eq_decide.mpr (show nI (X k) = nI x ↔ X k = x by rw [nI_eqE (by omega) (by omega)]), decide_eq_decide.mpr (show nI (Y k) = nI y ↔ Y k = y by rw [nI_eqE (by omega) (by omega)])])]
  rfl
theorem ans_point0 {F N p : Nat} (hp : p < N) {X Y W : Nat → Nat} : Ans_point F (N, X, Y, W) (nI p) 0 (IS (nI (X p)) (N, X, Y, W)) := by
  intro ca cl ci fr h0
  obtain ⟨M, U, V, Z, ⟨g1, gc⟩, g2, ⟨i8, i9, i2, i3⟩, ⟨r1, r3⟩, h4, h5⟩ := ok8 h0
  have hN := g1.1
  have p8 := isPoint8 F hN (nI p)
  rw [decide_eq_true (by rw [tI_n (by omega)]; omega)] at p8
  have ⟨x1, x2, x3⟩ := r1 p hp
  refine ⟨nI (X p), ?_, _, ⟨rfl, rfl⟩, h0⟩
  simp (disch := omega) only [mX8_point, i9, p8, Option.bind_some, k0T, if_false, if_true, rdI_n, x2]
theorem ans_point1 {F N p : Nat} (hp : p < N) {X Y W : Nat → Nat} : Ans_point F (N, X, Y, W) (nI p) 1 (IS (nI (Y p)) (N, X, Y, W)) := by
  intro ca cl ci fr h0
  obtain ⟨M, U, V, Z, ⟨g1, gc⟩, g2, ⟨i8, i9, i2, i3⟩, ⟨r1, r3⟩, h4, h5⟩ := ok8 h0
  have hN := g1.1
  have p8 := isPoint8 F hN (nI p)
  rw [decide_eq_true (by rw [tI_n (by omega)]; omega)] at p8
  have ⟨x1, x2, x3⟩ := r1 p hp
  have q0 : ¬ (1 : Int32) = 0 := by decide +kernel
  refine ⟨nI (Y p), ?_, _, ⟨rfl, rfl⟩, h0⟩
  simp (disch := omega) only [mX8_point, i9, p8, Option.bind_some, k0T, q0, if_false, if_true, rdI_n, x3]
theorem ans_point2 {F N p : Nat} (hp : p < N) {X Y W : Nat → Nat} : Ans_point F (N, X, Y, W) (nI p) 2 (IS (nI (W p)) (N, X, Y, W)) := by
  intro ca cl ci fr h0
  obtain ⟨M, U, V, Z, ⟨g1, gc⟩, g2, ⟨i8, i9, i2, i3⟩, ⟨r1, r3⟩, h4, h5⟩ := ok8 h0
  have hN := g1.1
  have p8 := isPoint8 F hN (nI p)
  rw [decide_eq_true (by rw [tI_n (by omega)]; omega)] at p8
  have ⟨x1, x2, x3⟩ := r1 p hp
  have q0 : ¬ (2 : Int32) = 0 := by decide +kernel
  have q1 : ¬ (2 : Int32) = 1 := by decide +kernel
  refine ⟨nI (W p), ?_, _, ⟨rfl, rfl⟩, h0⟩
  simp (disch := omega) only [mX8_point, i9, p8, Option.bind_some, k0T, q0, q1, if_false, if_true, rdI_n, x1]
/-- a point comes -/
theorem ans_add {F N a b w : Nat} (hF : 5000 ≤ F) {X Y W : Nat → Nat} (hN24 : N < 24) (ha : a < 1024) (hb : b < 1024) (hw : 1 ≤ w ∧ w ≤ 99) (hne : ∀ p, p < N → ¬ (X p = a ∧ Y p = b)) :
    Ans_add F (N, X, Y, W) (nI a) (nI b) (nI w) (fun v o => 0 ≤ v.toInt ∧ o = insO N X Y W a b w) := by
  intro ca cl ci fr h0
  obtain ⟨M, U, V, Z, ⟨g1, gc⟩, g2, ⟨i8, i9, i2, i3⟩, ⟨r1, r3⟩, h4, h5⟩ := ok8 h0
  have hN := g1.1
  have w8 := isWeight8 F (nI w)
  rw [decide_eq_true (by rw [tI_n (by omega)]; omega)] at w8
  have c4 := canCome4 (F := F) (by omega) hN (nI a) (nI b) (ca 27) (ca 28)
  have c : canB N (ca 27) (ca 28) (nI a) (nI b) = true := by
    unfold canB
    rw [tI_n (show a < 2 ^ 31 by omega), tI_n (show b < 2 ^ 31 by omega)]
    refine (Bool.and_eq_true _ _).mpr ⟨decide_eq_true (by omega), decide_eq_true (fstB_none.mpr (fun k hk => ?_))⟩
    have ⟨_, x, y⟩ := r1 k hk
    have ⟨d, e⟩ := g1.2.1 k hk
    have n := hne k hk
    rw [x, y]
    by_cases q : X k = a
    · have q2 : ¬ nI (Y k) = nI b := fun z => n ⟨q, (nI_eq (by omega) (by omega)).mp z⟩
      rw [decide_eq_false q2, Bool.and_false]
    · have q2 : ¬ nI (X k) = nI a := fun z => q ((nI_eq (by omega) (by omega)).mp z)
      rw [decide_eq_false q2, Bool.false_and]
  rw [c] at c4
  have gn := good_ins g1 hN24 ha hb hw hne
  obtain ⟨t5, e5, s5, q5⟩ := start8 (F := F) (ws := ca 7) (xs := ca 8) (ys := ca 9) (by omega) hN (ci 3) r1
  obtain ⟨t6, e6, s6, q6⟩ := put4r (F := F) (w := w) (by omega) hN24 ha hb g1.2.1 s5 q5
  have gc' := good_cut gn
  have q6' := rows_cut q6
  obtain ⟨t7, e7, s7, q7⟩ := rebuild2r (F := F) (by omega) gn.1 (rows_pt q6') gc'.2.1 s6 (ci 2) (ca 0) (ca 1) (ca 2) (ca 3) (cl 0) (cl 1) (ca 4) (ca 5) (cl 2) (ca 6) (ca 10) (ca 11) (ca 12)
  have e8 := unlike2r (F := F) (by omega) (by have := gn.1; omega) (by omega) s7 i8 (tr2_pair gn.1 gc'.2.1 q7) (tr2_pair hN g1.2.1 h4)
  refine ⟨?r8, ?e8, insO N X Y W a b w, ?pos8, ?rest⟩
  case e8 =>
    unfold mX8_add
    rw [i9, w8, c4, e5]
    simp only [Option.bind_some, k0T, if_false]
    rw [e6]
    simp only [Option.bind_some]
    rw [e7]
    simp only [Option.bind_some]
    rw [e8]
    simp only [Option.bind_some]
    exact rfl
  case pos8 =>
    refine ⟨?_, rfl⟩
    have := cntB_le (fun j => !hpB (pairB X Y (KK X Y N)) (pairB (cutN (N + 1) (insB X (ipB X Y a b N) a)) (cutN (N + 1) (insB Y (ipB X Y a b N) b)) (KK (cutN (N + 1) (insB X (ipB X Y a b N) a)) (cutN (N + 1) (insB Y (ipB X Y a b N) b)) (N + 1)) j) (N - 1)) (N + 1 - 1)
    show 0 ≤ (nI (cntB (fun j => !hpB (pairB X Y (KK X Y N)) (pairB (cutN (N + 1) (insB X (ipB X Y a b N) a)) (cutN (N + 1) (insB Y (ipB X Y a b N) b)) (KK (cutN (N + 1) (insB X (ipB X Y a b N) a)) (cutN (N + 1) (insB Y (ipB X Y a b N) b)) (N + 1)) j) (N - 1)) (N + 1 - 1))).toInt
    rw [tI_n (by omega)]
    omega
  case rest =>
    refine ⟨fun _ => ?_, fun hf => Bool.noConfusion (show true = false from hf)⟩
    exact ⟨N, X, Y, W, okm_cut gn, g1, ⟨s7, s6, i8, i9⟩, ⟨q6', r1⟩, q7, h4⟩
/-- a call of add, whatever its numbers -/
theorem ans_add_any {F N : Nat} (hF : 5000 ≤ F) {X Y W : Nat → Nat} (a1 a2 a3 : Int32) : Ans_add F (N, X, Y, W) a1 a2 a3 (fun _ _ => True) := by
  intro ca cl ci fr h0
  obtain ⟨M, U, V, Z, ⟨g1, gc⟩, g2, ⟨i8, i9, i2, i3⟩, ⟨r1, r3⟩, h4, h5⟩ := ok8 h0
  have hN := g1.1
  have w8 := isWeight8 F a3
  have c4 := canCome4 (F := F) (by omega) hN a1 a2 (ca 27) (ca 28)
  by_cases c : canB N (ca 27) (ca 28) a1 a2 = true ∧ 1 ≤ a3.toInt ∧ a3.toInt ≤ 99
  · obtain ⟨hN24, a, b, rfl, rfl, ha, hb, hne⟩ := canB_true g1.2.1 r1 c.1
    obtain ⟨w, hw, rfl⟩ : ∃ w : Nat, (1 ≤ w ∧ w ≤ 99) ∧ a3 = nI w := ⟨a3.toInt.toNat, by omega, tI_nI (by omega)⟩
    obtain ⟨r8, x1, o, _, x2⟩ := ans_add (F := F) hF hN24 ha hb hw hne ca cl ci fr h0
    exact ⟨r8, x1, o, trivial, x2⟩
  · have e8 : mX8_add F a1 a2 a3 (ci 2) (ci 3) (ci 8) (ci 9) (ca 0) (ca 1) (ca 2) (ca 3) (cl 0) (cl 1) (ca 4) (ca 5) (cl 2) (ca 6) (ca 7) (ca 8) (ca 9) (ca 10) (ca 11) (ca 12) (cl 5) (ca 26) (ca 27) (ca 28) = some ((-1 : Int32), ci 2, ci 3, ca 0, ca 1, ca 2, ca 3, cl 0, cl 1, ca 4, ca 5, cl 2, ca 6, ca 7, ca 8, ca 9, ca 10, ca 11, ca 12, false) := by
      unfold mX8_add
      rw [i9, w8, c4]
      by_cases c2 : 1 ≤ a3.toInt ∧ a3.toInt ≤ 99
      · have c1 : canB N (ca 27) (ca 28) a1 a2 = false := Bool.not_eq_true _ |>.mp (fun q => c ⟨q, c2⟩)
        rw [decide_eq_true c2, c1]
        simp only [Option.bind_some, k0T, k0F, if_false, if_true]
      · rw [decide_eq_false c2]
        simp only [Option.bind_some, k0F, if_true]
    exact ⟨_, e8, (N, X, Y, W), trivial, fun hf => Bool.noConfusion (show false = true from hf), fun _ => h0⟩
theorem ans_take {F N p : Nat} (hF : 5000 ≤ F) {X Y W : Nat → Nat} (hp : p < N) : Ans_take F (N, X, Y, W) (nI p) (fun v o => 0 ≤ v.toInt ∧ o = delO N X Y W p) := by
  intro ca cl ci fr h0
  obtain ⟨M, U, V, Z, ⟨g1, gc⟩, g2, ⟨i8, i9, i2, i3⟩, ⟨r1, r3⟩, h4, h5⟩ := ok8 h0
  have hN := g1.1
  have p8 := isPoint8 F hN (nI p)
  rw [decide_eq_true (by rw [tI_n (by omega)]; omega)] at p8
  have gn := good_del g1 hp
  obtain ⟨t5, e5, s5, q5⟩ := start8 (F := F) (ws := ca 7) (xs := ca 8) (ys := ca 9) (by omega) hN (ci 3) r1
  obtain ⟨t6, e6, s6, q6⟩ := drop4r (F := F) (by omega) hN hp s5 q5
  have gc' := good_cut gn
  have q6' := rows_cut q6
  obtain ⟨t7, e7, s7, q7⟩ := rebuild2r (F := F) (by omega) gn.1 (rows_pt q6') gc'.2.1 s6 (ci 2) (ca 0) (ca 1) (ca 2) (ca 3) (cl 0) (cl 1) (ca 4) (ca 5) (cl 2) (ca 6) (ca 10) (ca 11) (ca 12)
  have e8 := unlike2r (F := F) (by omega) (by have := gn.1; omega) (by omega) s7 i8 (tr2_pair gn.1 gc'.2.1 q7) (tr2_pair hN g1.2.1 h4)
  refine ⟨?r8, ?e8, delO N X Y W p, ?pos8, ?rest⟩
  case e8 =>
    unfold mX8_take
    rw [i9, p8, e5]
    simp only [Option.bind_some, k0T, if_false]
    rw [e6]
    simp only [Option.bind_some]
    rw [e7]
    simp only [Option.bind_some]
    rw [e8]
    simp only [Option.bind_some]
    exact rfl
  case pos8 =>
    refine ⟨?_, rfl⟩
    have := cntB_le (fun j => !hpB (pairB X Y (KK X Y N)) (pairB (cutN (N - 1) (delB X p)) (cutN (N - 1) (delB Y p)) (KK (cutN (N - 1) (delB X p)) (cutN (N - 1) (delB Y p)) (N - 1)) j) (N - 1)) (N - 1 - 1)
    show 0 ≤ (nI (cntB (fun j => !hpB (pairB X Y (KK X Y N)) (pairB (cutN (N - 1) (delB X p)) (cutN (N - 1) (delB Y p)) (KK (cutN (N - 1) (delB X p)) (cutN (N - 1) (delB Y p)) (N - 1)) j) (N - 1)) (N - 1 - 1))).toInt
    rw [tI_n (by omega)]
    omega
  case rest =>
    refine ⟨fun _ => ?_, fun hf => Bool.noConfusion (show true = false from hf)⟩
    exact ⟨N, X, Y, W, okm_cut gn, g1, ⟨s7, s6, i8, i9⟩, ⟨q6', r1⟩, q7, h4⟩
/-- how many groups -/
def grN (X Y : Nat → Nat) (N z : Nat) : Nat := cntB (hdB (szB X Y N z)) N
theorem ans_groups {F N z : Nat} (hF : 5000 ≤ F) (hz : z ≤ 10) {X Y W : Nat → Nat} : Ans_groups F (N, X, Y, W) (nI z) (IS (nI (grN X Y N z)) (N, X, Y, W)) := by
  intro ca cl ci fr h0
  obtain ⟨M, U, V, Z, ⟨g1, gc⟩, g2, ⟨i8, i9, i2, i3⟩, ⟨r1, r3⟩, h4, h5⟩ := ok8 h0
  have hN := g1.1
  have e8 := groups8 (F := F) (by omega) hN hz (tr2_A hN g1.2.1 h4)
  rw [← i8, ← i9, ← szB_cnt hN] at e8
  exact ⟨_, e8, _, ⟨rfl, rfl⟩, h0⟩
theorem ans_groupOf {F N z p : Nat} (hF : 5000 ≤ F) (hz : z ≤ 10) (hp : p < N) {X Y W : Nat → Nat} : Ans_groupOf F (N, X, Y, W) (nI z) (nI p) (IS (nI (ixB (szB X Y N z) (lo (szB X Y N z p)))) (N, X, Y, W)) := by
  intro ca cl ci fr h0
  obtain ⟨M, U, V, Z, ⟨g1, gc⟩, g2, ⟨i8, i9, i2, i3⟩, ⟨r1, r3⟩, h4, h5⟩ := ok8 h0
  have hN := g1.1
  have p8 := isPoint8 F hN (nI p)
  rw [decide_eq_true (by rw [tI_n (by omega)]; omega)] at p8
  have zd := isZoom8 F (nI z)
  rw [decide_eq_true (by rw [tI_n (by omega)]; omega)] at zd
  obtain ⟨r, er, gr⟩ := cutZ (F := F) (by omega) g1 r1 h4 hz i8 i9 (ci 11) (ca 38) (ca 39) (ca 40) (ca 41) (ca 42)
  refine ⟨?r8, ?e8, (N, X, Y, W), ⟨?eq8, rfl⟩, h0⟩
  case e8 =>
    unfold mX8_groupOf
    rw [zd, Option.bind_some, if_neg (by rw [k0T]; exact id), er, i9, p8, Option.bind_some, if_neg (by rw [k0T]; exact id), Option.bind_some, rdI_n (by omega) (by omega), Option.bind_some, gr.2.2 p hp]
  case eq8 => rfl
theorem ix_24 {s : Nat → Nat} {N p : Nat} (hN : N ≤ 24) (hp : p < N) : ixB s p < 24 := by
  have := ix_lt (s := s) (p := p)
  omega
theorem ix_in {s : Nat → Nat} {N p : Nat} (hp : p < N) (hd : hdB s p = true) : ixB s p < cntB (hdB s) N := ix_strict hd hp
theorem cuts_p {F N z p : Nat} {X Y W : Nat → Nat} {aparts fs firsts ja os parts pa roots seconds ws pxs pys : Nat → Int32} {pairs : Nat → Int64} {oc pc : Int32} (hF : 1000 ≤ F) (gd : GOOD N X Y W) (hP : ROWS N X Y W ws pxs pys) (h : TR2 X Y N aparts fs firsts ja os parts pa roots seconds pairs) (hz : z ≤ 10) (hoc : oc = nI (N - 1)) (hpc : pc = nI N) (hp : p < N) (hd : hdB (szB X Y N z) p = true) (cnt : Int32) (groupAt sets weights xs ys : Nat → Int32) :
    ∃ r, mX8_cutsGroup F (nI z) (nI (ixB (szB X Y N z) p)) oc pc cnt aparts parts ws pxs pys groupAt sets weights xs ys = some (bI true, r) ∧ SCALE N (szB X Y N z) X Y W r.1 r.2.1 r.2.2.1 r.2.2.2.1 r.2.2.2.2.1 r.2.2.2.2.2 := by
  obtain ⟨r, er, gr⟩ := cuts8 (F := F) hF gd hP h hz hoc hpc (nI (ixB (szB X Y N z) p)) cnt groupAt sets weights xs ys
  have i1 := ix_24 (s := szB X Y N z) gd.1 hp
  have i2 := ix_in hp hd
  rw [decide_eq_true (by rw [tI_n (by omega)]; omega)] at er
  exact ⟨r, er, gr⟩
theorem ans_group0 {F N z p : Nat} (hF : 5000 ≤ F) (hz : z ≤ 10) (hp : p < N) {X Y W : Nat → Nat} (hd : hdB (szB X Y N z) p = true) : Ans_group F (N, X, Y, W) (nI z) (nI (ixB (szB X Y N z) p)) 0 (IS (nI p) (N, X, Y, W)) := by
  intro ca cl ci fr h0
  obtain ⟨M, U, V, Z, ⟨g1, gc⟩, g2, ⟨i8, i9, i2, i3⟩, ⟨r1, r3⟩, h4, h5⟩ := ok8 h0
  have hN := g1.1
  have ⟨q24, q0'⟩ := part_24 hN (szB_part (X := X) (Y := Y) (z := z) hN) hp
  have ixl := ix_24 (s := szB X Y N z) hN hp
  obtain ⟨r, er, gr⟩ := cuts_p (F := F) (by omega) g1 r1 h4 hz i8 i9 hp hd (ci 11) (ca 38) (ca 39) (ca 40) (ca 41) (ca 42)
  have sc := gr.2.1 p hp hd
  have el : lo (szB X Y N z p) = p := of_decide_eq_true hd
  have ls6 := least6s (F := F) (by omega) q24 q0'
  rw [el] at ls6
  refine ⟨?r8, ?e8, (N, X, Y, W), ⟨?eq8, rfl⟩, h0⟩
  case e8 =>
    unfold mX8_group
    rw [er, Option.bind_some, if_neg (by rw [k0T]; exact id), rdI_n (by omega) (by omega), Option.bind_some, sc.1, if_pos rfl, ls6, Option.bind_some]
  case eq8 => rfl
theorem ans_group1 {F N z p : Nat} (hF : 5000 ≤ F) (hz : z ≤ 10) (hp : p < N) {X Y W : Nat → Nat} (hd : hdB (szB X Y N z) p = true) : Ans_group F (N, X, Y, W) (nI z) (nI (ixB (szB X Y N z) p)) 1 (IS (nI (cntB (szB X Y N z p).testBit 24)) (N, X, Y, W)) := by
  intro ca cl ci fr h0
  obtain ⟨M, U, V, Z, ⟨g1, gc⟩, g2, ⟨i8, i9, i2, i3⟩, ⟨r1, r3⟩, h4, h5⟩ := ok8 h0
  have hN := g1.1
  have ⟨q24, q0'⟩ := part_24 hN (szB_part (X := X) (Y := Y) (z := z) hN) hp
  have ixl := ix_24 (s := szB X Y N z) hN hp
  obtain ⟨r, er, gr⟩ := cuts_p (F := F) (by omega) g1 r1 h4 hz i8 i9 hp hd (ci 11) (ca 38) (ca 39) (ca 40) (ca 41) (ca 42)
  have sc := gr.2.1 p hp hd
  have b6 := bitCnt_n q24
  have q0 : ¬ (1 : Int32) = 0 := by decide +kernel
  refine ⟨?r8, ?e8, (N, X, Y, W), ⟨?eq8, rfl⟩, h0⟩
  case e8 =>
    unfold mX8_group
    rw [er, Option.bind_some, if_neg (by rw [k0T]; exact id), rdI_n (by omega) (by omega), Option.bind_some, sc.1, if_neg q0, if_pos rfl, b6, Option.bind_some]
  case eq8 => rfl
theorem ans_group2 {F N z p : Nat} (hF : 5000 ≤ F) (hz : z ≤ 10) (hp : p < N) {X Y W : Nat → Nat} (hd : hdB (szB X Y N z) p = true) : Ans_group F (N, X, Y, W) (nI z) (nI (ixB (szB X Y N z) p)) 2 (IS (nI (wtB W (szB X Y N z p) N)) (N, X, Y, W)) := by
  intro ca cl ci fr h0
  obtain ⟨M, U, V, Z, ⟨g1, gc⟩, g2, ⟨i8, i9, i2, i3⟩, ⟨r1, r3⟩, h4, h5⟩ := ok8 h0
  have hN := g1.1
  have ixl := ix_24 (s := szB X Y N z) hN hp
  obtain ⟨r, er, gr⟩ := cuts_p (F := F) (by omega) g1 r1 h4 hz i8 i9 hp hd (ci 11) (ca 38) (ca 39) (ca 40) (ca 41) (ca 42)
  have sc := gr.2.1 p hp hd
  have q0 : ¬ (2 : Int32) = 0 := by decide +kernel
  have q1 : ¬ (2 : Int32) = 1 := by decide +kernel
  refine ⟨?r8, ?e8, (N, X, Y, W), ⟨?eq8, rfl⟩, h0⟩
  case e8 =>
    unfold mX8_group
    rw [er, Option.bind_some, if_neg (by rw [k0T]; exact id), rdI_n (by omega) (by omega), Option.bind_some, sc.1, if_neg q0, if_neg q1, if_pos rfl, rdI_n (by omega) (by omega), Option.bind_some, sc.2.1]
  case eq8 => rfl
theorem ans_group10 {F N z p : Nat} (hF : 5000 ≤ F) (hz : z ≤ 10) (hp : p < N) {X Y W : Nat → Nat} (hd : hdB (szB X Y N z) p = true) : Ans_group F (N, X, Y, W) (nI z) (nI (ixB (szB X Y N z) p)) 10 (IS (oI (mkrB (fP (KK X Y N)) (fQ (KK X Y N)) (szB X Y N z p) (N - 1))) (N, X, Y, W)) := by
  intro ca cl ci fr h0
  obtain ⟨M, U, V, Z, ⟨g1, gc⟩, g2, ⟨i8, i9, i2, i3⟩, ⟨r1, r3⟩, h4, h5⟩ := ok8 h0
  have hN := g1.1
  have ⟨q24, q0'⟩ := part_24 hN (szB_part (X := X) (Y := Y) (z := z) hN) hp
  have ixl := ix_24 (s := szB X Y N z) hN hp
  obtain ⟨r, er, gr⟩ := cuts_p (F := F) (by omega) g1 r1 h4 hz i8 i9 hp hd (ci 11) (ca 38) (ca 39) (ca 40) (ca 41) (ca 42)
  have sc := gr.2.1 p hp hd
  have mk2 := maker2 (F := F) (by omega) (show N - 1 ≤ 24 by omega) (show szB X Y N z p < 2 ^ 31 by omega) (tr2_pm hN h4)
  have q0 : ¬ (10 : Int32) = 0 := by decide +kernel
  have q1 : ¬ (10 : Int32) = 1 := by decide +kernel
  have q2 : ¬ (10 : Int32) = 2 := by decide +kernel
  have q3 : ¬ (10 : Int32) = 3 := by decide +kernel
  have q4 : ¬ (10 : Int32) = 4 := by decide +kernel
  have q5 : ¬ (10 : Int32) = 5 := by decide +kernel
  have q6 : ¬ (10 : Int32) = 6 := by decide +kernel
  have q7 : ¬ (10 : Int32) = 7 := by decide +kernel
  have q8 : ¬ (10 : Int32) = 8 := by decide +kernel
  have q9 : ¬ (10 : Int32) = 9 := by decide +kernel
  refine ⟨?r8, ?e8, (N, X, Y, W), ⟨?eq8, rfl⟩, h0⟩
  case e8 =>
    unfold mX8_group
    rw [er, Option.bind_some, if_neg (by rw [k0T]; exact id), rdI_n (by omega) (by omega), Option.bind_some, sc.1, if_neg q0, if_neg q1, if_neg q2, if_neg q3, if_neg q4, if_neg q5, if_neg q6, if_neg q7, if_neg q8, if_neg q9, if_pos rfl, i8, mk2, Option.bind_some]
  case eq8 => rfl
/-- how many groups of the next zoom are in a group -/
def spN (X Y : Nat → Nat) (N z p : Nat) : Nat := cntB (inQ (szB X Y N z p) (szB X Y N (z + 1))) N
theorem ans_group11 {F N z p : Nat} (hF : 5000 ≤ F) (hz : z < 10) (hp : p < N) {X Y W : Nat → Nat} (hd : hdB (szB X Y N z) p = true) : Ans_group F (N, X, Y, W) (nI z) (nI (ixB (szB X Y N z) p)) 11 (IS (nI (spN X Y N z p)) (N, X, Y, W)) := by
  intro ca cl ci fr h0
  obtain ⟨M, U, V, Z, ⟨g1, gc⟩, g2, ⟨i8, i9, i2, i3⟩, ⟨r1, r3⟩, h4, h5⟩ := ok8 h0
  have hN := g1.1
  have ⟨q24, q0'⟩ := part_24 hN (szB_part (X := X) (Y := Y) (z := z) hN) hp
  have ixl := ix_24 (s := szB X Y N z) hN hp
  obtain ⟨r, er, gr⟩ := cuts_p (F := F) (by omega) g1 r1 h4 (show z ≤ 10 by omega) i8 i9 hp hd (ci 11) (ca 38) (ca 39) (ca 40) (ca 41) (ca 42)
  have sc := gr.2.1 p hp hd
  have hS2 := szB_part (X := X) (Y := Y) (z := z + 1) hN
  obtain ⟨u, eu, gu⟩ := cutZ (F := F) (by omega) g1 r1 h4 (show z + 1 ≤ 10 by omega) i8 i9 (ci 10) (ca 32) (ca 33) (ca 34) (ca 35) (ca 36)
  rw [← nI_1] at eu
  obtain ⟨P, eP, hP⟩ := within5 (F := F) (m := szB X Y N z p) (Q := fun q => (szB X Y N z p).testBit q) (by omega) hN hS2 gu (fun q hq _ => sz_in hN hq hp)
  have be := bits_en hN hP
  have q0 : ¬ (11 : Int32) = 0 := by decide +kernel
  have q1 : ¬ (11 : Int32) = 1 := by decide +kernel
  have q2 : ¬ (11 : Int32) = 2 := by decide +kernel
  have q3 : ¬ (11 : Int32) = 3 := by decide +kernel
  have q4 : ¬ (11 : Int32) = 4 := by decide +kernel
  have q5 : ¬ (11 : Int32) = 5 := by decide +kernel
  have q6 : ¬ (11 : Int32) = 6 := by decide +kernel
  have q7 : ¬ (11 : Int32) = 7 := by decide +kernel
  have q8 : ¬ (11 : Int32) = 8 := by decide +kernel
  have q9 : ¬ (11 : Int32) = 9 := by decide +kernel
  have q10 : ¬ (11 : Int32) = 10 := by decide +kernel
  refine ⟨?r8, ?e8, (N, X, Y, W), ⟨?_, rfl⟩, h0⟩
  case e8 =>
    unfold mX8_group mX8_countSplits
    rw [er, Option.bind_some, if_neg (by rw [k0T]; exact id), rdI_n (by omega) (by omega), Option.bind_some, sc.1, if_neg q0, if_neg q1, if_neg q2, if_neg q3, if_neg q4, if_neg q5, if_neg q6, if_neg q7, if_neg q8, if_neg q9, if_neg q10, if_pos rfl, if_pos (show nI z < (10 : Int32) by rw [c10, nI_ltE (by omega) (by omega)]; omega), eu, Option.bind_some, eP, Option.bind_some, be, Option.bind_some, Option.bind_some]
  rfl
theorem ans_member {F N z p : Nat} (hF : 5000 ≤ F) (hz : z ≤ 10) (hp : p < N) {X Y W : Nat → Nat} (hd : hdB (szB X Y N z) p = true) (i : Int32) : Ans_member F (N, X, Y, W) (nI z) (nI (ixB (szB X Y N z) p)) i (IS (oI (fstB (fun k => (szB X Y N z p).testBit k && decide (nI (cntB (szB X Y N z p).testBit k) = i)) N)) (N, X, Y, W)) := by
  intro ca cl ci fr h0
  obtain ⟨M, U, V, Z, ⟨g1, gc⟩, g2, ⟨i8, i9, i2, i3⟩, ⟨r1, r3⟩, h4, h5⟩ := ok8 h0
  have hN := g1.1
  have hS := szB_part (X := X) (Y := Y) (z := z) hN
  have ⟨q24, q0'⟩ := part_24 hN hS hp
  have ixl := ix_24 (s := szB X Y N z) hN hp
  obtain ⟨r, er, gr⟩ := cuts_p (F := F) (by omega) g1 r1 h4 hz i8 i9 hp hd (ci 11) (ca 38) (ca 39) (ca 40) (ca 41) (ca 42)
  refine ⟨?r8, ?e8, (N, X, Y, W), ⟨?eq8, rfl⟩, h0⟩
  case e8 =>
    unfold mX8_member
    rw [er, Option.bind_some, if_neg (by rw [k0T]; exact id), rdI_n (by omega) (by omega), Option.bind_some, (gr.2.1 p hp hd).1, nth6 (by omega) (by omega), Option.bind_some, fst_cut (hS p hp).2.1 hN]
  case eq8 => rfl
theorem ans_splits {F N z p : Nat} (hF : 5000 ≤ F) (hz : z < 10) (hp : p < N) {X Y W : Nat → Nat} (hd : hdB (szB X Y N z) p = true) (i : Int32) : Ans_splits F (N, X, Y, W) (nI z) (nI (ixB (szB X Y N z) p)) i (IS (oI ((fstB (fun q => inQ (szB X Y N z p) (szB X Y N (z + 1)) q && decide (nI (cntB (inQ (szB X Y N z p) (szB X Y N (z + 1))) q) = i)) N).map (ixB (szB X Y N (z + 1))))) (N, X, Y, W)) := by
  intro ca cl ci fr h0
  obtain ⟨M, U, V, Z, ⟨g1, gc⟩, g2, ⟨i8, i9, i2, i3⟩, ⟨r1, r3⟩, h4, h5⟩ := ok8 h0
  have hN := g1.1
  have hS := szB_part (X := X) (Y := Y) (z := z) hN
  have ⟨q24, q0'⟩ := part_24 hN hS hp
  have ixl := ix_24 (s := szB X Y N z) hN hp
  have nz : ¬ nI z = (10 : Int32) := by rw [c10, nI_eqE (by omega) (by omega)]; omega
  obtain ⟨r, er, gr⟩ := cuts_p (F := F) (by omega) g1 r1 h4 (show z ≤ 10 by omega) i8 i9 hp hd (ci 11) (ca 38) (ca 39) (ca 40) (ca 41) (ca 42)
  have hS2 := szB_part (X := X) (Y := Y) (z := z + 1) hN
  obtain ⟨u, eu, gu⟩ := cutZ (F := F) (by omega) g1 r1 h4 (show z + 1 ≤ 10 by omega) i8 i9 (ci 10) (ca 32) (ca 33) (ca 34) (ca 35) (ca 36)
  rw [← nI_1] at eu
  obtain ⟨P, eP, hP⟩ := within5 (F := F) (m := szB X Y N z p) (Q := fun q => (szB X Y N z p).testBit q) (by omega) hN hS2 gu (fun q hq _ => sz_in hN hq hp)
  have en := en_nth hN hP i
  have ixN := ix_lt (s := szB X Y N (z + 1)) (p := N)
  have e8 : mX8_splits F (nI z) (nI (ixB (szB X Y N z) p)) i (ci 8) (ci 9) (ci 10) (ci 11) (ca 19) (ca 25) (ca 26) (ca 27) (ca 28) (ca 32) (ca 33) (ca 34) (ca 35) (ca 36) (ca 38) (ca 39) (ca 40) (ca 41) (ca 42) =
      some (oI ((fstB (fun q => inQ (szB X Y N z p) (szB X Y N (z + 1)) q && decide (nI (cntB (inQ (szB X Y N z p) (szB X Y N (z + 1))) q) = i)) N).map (ixB (szB X Y N (z + 1)))), u.1, r.1, u.2.1, u.2.2.1, u.2.2.2.1, u.2.2.2.2.1, u.2.2.2.2.2, r.2.1, r.2.2.1, r.2.2.2.1, r.2.2.2.2.1, r.2.2.2.2.2) := by
    unfold mX8_splits
    rw [if_neg nz, er, Option.bind_some, if_neg (by rw [k0T]; exact id), eu, Option.bind_some, rdI_n (by omega) (by omega), Option.bind_some, (gr.2.1 p hp hd).1, eP, Option.bind_some, nth6 (by omega) (mk_lt31 _ (by omega)), Option.bind_some, en]
    rfl
  exact ⟨_, e8, (N, X, Y, W), ⟨rfl, rfl⟩, h0⟩
/-- what join tells of a join, but whether it is new -/
def jnV (X Y W : Nat → Nat) (N j : Nat) : Nat → Int32
  | 0 => nI (AA X Y N j)
  | 1 => nI (fP (KK X Y N) j)
  | 2 => nI (fQ (KK X Y N) j)
  | 3 => nI (cntB (pmB (fP (KK X Y N)) (fQ (KK X Y N)) j).testBit 24)
  | 4 => nI (wtB W (pmB (fP (KK X Y N)) (fQ (KK X Y N)) j) N)
  | 5 => nI (ndB (fP (KK X Y N)) (fQ (KK X Y N)) j (fP (KK X Y N) j))
  | 6 => nI (ndB (fP (KK X Y N)) (fQ (KK X Y N)) j (fQ (KK X Y N) j))
  | 7 => oI (jaB (fP (KK X Y N)) (fQ (KK X Y N)) (N - 1) j)
  | _ + 8 => lsJ X Y W N j
theorem ans_join {F N j w : Nat} (hF : 5000 ≤ F) (hj : j < N - 1) (hw : w < 9) {X Y W : Nat → Nat} : Ans_join F (N, X, Y, W) (nI j) (nI w) (IS (jnV X Y W N j w) (N, X, Y, W)) := by
  intro ca cl ci fr h0
  obtain ⟨M, U, V, Z, ⟨g1, gc⟩, g2, ⟨i8, i9, i2, i3⟩, ⟨r1, r3⟩, h4, h5⟩ := ok8 h0
  have hN := g1.1
  have A := h4.1 j hj
  have hpm := tr_pm (X := X) (Y := Y) hN hj
  have hpm24 : pmB (fP (KK X Y N)) (fQ (KK X Y N)) j < 2 ^ 24 := Nat.lt_of_lt_of_le hpm (Nat.pow_le_pow_right (by omega) hN)
  have x1 : ¬ nI j < 0 := by rw [nI_lt0 (by omega)]; exact id
  have x2 : nI j < nI (N - 1) := by rw [nI_ltE (by omega) (by omega)]; exact hj
  have e100 : (100 : Int32) + nI j = nI (100 + j) := by rw [c100, nI_add]
  have ne : ∀ a b : Nat, a < 9 → b < 9 → a ≠ b → ¬ nI a = nI b := fun a b ha hb h q => h ((nI_eq (by omega) (by omega)).mp q)
  refine ⟨jnV X Y W N j w, ?_, _, ⟨rfl, rfl⟩, h0⟩
  have n10 := ne 1 0 (by omega) (by omega) (by omega)
  have n20 := ne 2 0 (by omega) (by omega) (by omega)
  have n21 := ne 2 1 (by omega) (by omega) (by omega)
  match w, hw with
  | 0, _ => simp (disch := omega) only [mX8_join, jnV, i8, i9, x1, x2, show nI 0 = (0 : Int32) from rfl, if_false, if_true, rdI_n, Option.bind_some, A.1]; rfl
  | 1, _ =>
    have d0 : ¬ (1 : Int32) = 0 := by decide +kernel
    simp (disch := omega) only [mX8_join, jnV, i8, i9, x1, x2, show nI 1 = (1 : Int32) from rfl, d0, if_false, if_true, rdI_n, Option.bind_some, A.2.2.1]
  | 2, _ =>
    have d0 : ¬ (2 : Int32) = 0 := by decide +kernel
    have d1 : ¬ (2 : Int32) = 1 := by decide +kernel
    simp (disch := omega) only [mX8_join, jnV, i8, i9, x1, x2, show nI 2 = (2 : Int32) from rfl, d0, d1, if_false, if_true, rdI_n, Option.bind_some, A.2.2.2.2.2.2.1]
  | 3, _ =>
    have d0 : ¬ (3 : Int32) = 0 := by decide +kernel
    have d1 : ¬ (3 : Int32) = 1 := by decide +kernel
    have d2 : ¬ (3 : Int32) = 2 := by decide +kernel
    simp (disch := omega) only [mX8_join, jnV, i8, i9, x1, x2, show nI 3 = (3 : Int32) from rfl, d0, d1, d2, if_false, if_true, rdI_n, Option.bind_some, A.2.2.2.2.1]
    rw [bitCnt_n hpm24]
  | 4, _ =>
    have d0 : ¬ (4 : Int32) = 0 := by decide +kernel
    have d1 : ¬ (4 : Int32) = 1 := by decide +kernel
    have d2 : ¬ (4 : Int32) = 2 := by decide +kernel
    have d3 : ¬ (4 : Int32) = 3 := by decide +kernel
    simp (disch := omega) only [mX8_join, jnV, i8, i9, x1, x2, show nI 4 = (4 : Int32) from rfl, d0, d1, d2, d3, if_false, if_true, rdI_n, Option.bind_some, A.2.2.2.2.1]
    rw [weight4 (by omega) hN (by omega) (rows_w r1), Option.bind_some]
  | 5, _ =>
    have d0 : ¬ (5 : Int32) = 0 := by decide +kernel
    have d1 : ¬ (5 : Int32) = 1 := by decide +kernel
    have d2 : ¬ (5 : Int32) = 2 := by decide +kernel
    have d3 : ¬ (5 : Int32) = 3 := by decide +kernel
    have d4 : ¬ (5 : Int32) = 4 := by decide +kernel
    simp (disch := omega) only [mX8_join, jnV, i8, i9, x1, x2, show nI 5 = (5 : Int32) from rfl, d0, d1, d2, d3, d4, if_false, if_true, rdI_n, Option.bind_some, A.2.1]
  | 6, _ =>
    have d0 : ¬ (6 : Int32) = 0 := by decide +kernel
    have d1 : ¬ (6 : Int32) = 1 := by decide +kernel
    have d2 : ¬ (6 : Int32) = 2 := by decide +kernel
    have d3 : ¬ (6 : Int32) = 3 := by decide +kernel
    have d4 : ¬ (6 : Int32) = 4 := by decide +kernel
    have d5 : ¬ (6 : Int32) = 5 := by decide +kernel
    simp (disch := omega) only [mX8_join, jnV, i8, i9, x1, x2, show nI 6 = (6 : Int32) from rfl, d0, d1, d2, d3, d4, d5, if_false, if_true, rdI_n, Option.bind_some, A.2.2.2.1]
  | 7, _ =>
    have d0 : ¬ (7 : Int32) = 0 := by decide +kernel
    have d1 : ¬ (7 : Int32) = 1 := by decide +kernel
    have d2 : ¬ (7 : Int32) = 2 := by decide +kernel
    have d3 : ¬ (7 : Int32) = 3 := by decide +kernel
    have d4 : ¬ (7 : Int32) = 4 := by decide +kernel
    have d5 : ¬ (7 : Int32) = 5 := by decide +kernel
    have d6 : ¬ (7 : Int32) = 6 := by decide +kernel
    simp (disch := omega) only [mX8_join, jnV, i8, i9, x1, x2, show nI 7 = (7 : Int32) from rfl, d0, d1, d2, d3, d4, d5, d6, if_false, if_true, rdI_n, Option.bind_some, h4.2.1 j hj]
  | 8, _ =>
    have d0 : ¬ (8 : Int32) = 0 := by decide +kernel
    have d1 : ¬ (8 : Int32) = 1 := by decide +kernel
    have d2 : ¬ (8 : Int32) = 2 := by decide +kernel
    have d3 : ¬ (8 : Int32) = 3 := by decide +kernel
    have d4 : ¬ (8 : Int32) = 4 := by decide +kernel
    have d5 : ¬ (8 : Int32) = 5 := by decide +kernel
    have d6 : ¬ (8 : Int32) = 6 := by decide +kernel
    have d7 : ¬ (8 : Int32) = 7 := by decide +kernel
    simp (disch := omega) only [mX8_join, jnV, i8, i9, x1, x2, show nI 8 = (8 : Int32) from rfl, d0, d1, d2, d3, d4, d5, d6, d7, if_false, if_true, e100]
    rw [lastsJ2 (by omega) hN h4 (rows_w r1) hj, Option.bind_some]
  | n + 9, h => omega
