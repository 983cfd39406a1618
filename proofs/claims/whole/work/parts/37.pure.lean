/-! ===== PURE 28: calls top, tile ===== -/
/-- whether a group (of weight a, number g) stands ahead of another one -/
def ahB (w : Nat → Nat) (g k : Nat) : Bool := decide (w g < w k) || (decide (w k = w g) && decide (k < g))
def rkG (P : Nat → Bool) (w : Nat → Nat) (C g : Nat) : Nat := cntB (fun k => P k && ahB w g k) C
theorem ahead5 {F C g : Nat} {P : Nat → Bool} {w : Nat → Nat} {weights : Nat → Int32} (hF : 1000 ≤ F) (hC : C ≤ 24) (hg : g < C) (hw : ∀ k, k < C → weights k = nI (w k) ∧ w k ≤ 2376) :
    mX5_countAhead F (nI (mkB P C)) (nI g) (nI C) weights = some (nI (rkG P w C g)) := by
  unfold mX5_countAhead
  refine lp (fun k => (nI (cntB (fun k => P k && ahB w g k) k), nI k)) 0 C _ (by omega) rfl (fun k _ hk => ?_) ?_ (by omega)
  · have ⟨a1, a2⟩ := hw k hk
    have ⟨b1, b2⟩ := hw g hg
    have hb : mX6_has F (nI (mkB P C)) (nI k) = some (bI (P k)) := by rw [has6b F (mk_lt31 _ (by omega)) (by omega), mkB_bit, decide_eq_true hk, Bool.true_and]
    have one : ¬ (1 : Int32) = 0 := by decide +kernel
    unfold mX5_countAhead_b5
    simp only []
    rw [if_neg (by rw [nI_leE (by omega) (by omega)]; omega), rdI_n (by omega) (by omega), Option.bind_some, rdI_n (by omega) (by omega), Option.bind_some, a1, b1, hb, nI_1]
    rw [show cntB (fun k => P k && ahB w g k) (k + 1) = cntB (fun k => P k && ahB w g k) k + (if (P k && ahB w g k) = true then 1 else 0) from rfl]
    by_cases h1 : w g < w k
    · have ea : ahB w g k = true := by unfold ahB; rw [decide_eq_true h1]; rfl
      rw [if_pos ((nI_ltI (by omega) (by omega)).mpr h1), Option.bind_some, ea, Bool.and_true]
      cases P k with
      | true => rw [if_neg (by rw [k0T]; exact id), if_neg one, Option.bind_some, nI_1]; rfl
      | false => rw [if_pos (by rw [k0F]; trivial)]; rfl
    · rw [if_neg (fun q => h1 ((nI_ltI (by omega) (by omega)).mp q)), Option.bind_some, Option.bind_some]
      by_cases h2 : w k = w g
      · rw [if_pos (congrArg nI h2)]
        by_cases h3 : g ≤ k
        · have ea : ahB w g k = false := by unfold ahB; rw [decide_eq_false h1, decide_eq_false (show ¬ k < g by omega), Bool.and_false]; rfl
          rw [if_pos ((nI_leI (by omega) (by omega)).mpr h3), Option.bind_some, ea, Bool.and_false]
          cases P k with
          | true => rw [if_neg (by rw [k0T]; exact id), if_pos trivial]; rfl
          | false => rw [if_pos (by rw [k0F]; trivial)]; rfl
        · have ea : ahB w g k = true := by unfold ahB; rw [decide_eq_true h2, decide_eq_true (show k < g by omega), Bool.and_true, Bool.or_true]
          rw [if_neg (fun q => h3 ((nI_leI (by omega) (by omega)).mp q)), Option.bind_some, ea, Bool.and_true]
          cases P k with
          | true => rw [if_neg (by rw [k0T]; exact id), if_neg one, Option.bind_some, nI_1]; rfl
          | false => rw [if_pos (by rw [k0F]; trivial)]; rfl
      · have ea : ahB w g k = false := by unfold ahB; rw [decide_eq_false h1, decide_eq_false h2]; rfl
        rw [if_neg (fun q => h2 ((nI_eq (by omega) (by omega)).mp q)), Option.bind_some, ea, Bool.and_false]
        cases P k with
        | true => rw [if_neg (by rw [k0T]; exact id), if_pos trivial]; rfl
        | false => rw [if_pos (by rw [k0F]; trivial)]; rfl
  · unfold mX5_countAhead_b5
    simp only []
    rw [if_pos (by rw [nI_leE (by omega) (by omega)]; omega)]
    rfl
theorem heavy5 {F C : Nat} {P : Nat → Bool} {w : Nat → Nat} {weights : Nat → Int32} (hF : 1000 ≤ F) (hC : C ≤ 24) (hw : ∀ k, k < C → weights k = nI (w k) ∧ w k ≤ 2376) (i : Int32) :
    mX5_heaviest F (nI (mkB P C)) i (nI C) weights = some (oI (fstB (fun g => P g && decide (nI (rkG P w C g) = i)) C)) := by
  unfold mX5_heaviest
  refine (lpS nI (fun g => P g && decide (nI (rkG P w C g) = i)) C nI (-1) rfl (fun k hk _ => ?_) (fun _ => ?_) (by omega)).trans ?_
  · have hb : mX6_has F (nI (mkB P C)) (nI k) = some (bI (P k)) := by rw [has6b F (mk_lt31 _ (by omega)) (by omega), mkB_bit, decide_eq_true hk, Bool.true_and]
    unfold mX5_heaviest_b2
    rw [if_neg (by rw [nI_leE (by omega) (by omega)]; omega), hb, Option.bind_some, ahead5 hF hC hk hw, nI_1]
    cases P k with
    | false => rw [if_pos (by rw [k0F]; trivial)]; rfl
    | true =>
      rw [if_neg (by rw [k0T]; exact id), Option.bind_some, Bool.true_and]
      by_cases c : nI (rkG P w C k) = i
      · rw [if_pos c, if_pos (decide_eq_true c)]
      · rw [if_neg c, if_neg (by rw [decide_eq_false c]; decide)]
  · unfold mX5_heaviest_b2
    rw [if_pos (by rw [nI_leE (by omega) (by omega)]; omega)]
  · exact congrArg some (oI_def _)
/-- the same over heads -/
def wS (W : Nat → Nat) (N : Nat) (s : Nat → Nat) (p : Nat) : Nat := wtB W (s p) N
def rkP (Q : Nat → Bool) (s W : Nat → Nat) (N p : Nat) : Nat := cntB (fun q => hdB s q && (Q q && ahB (wS W N s) p q)) N
theorem ix_ltE {s : Nat → Nat} {p q : Nat} (hp : hdB s p = true) (hq : hdB s q = true) : decide (ixB s q < ixB s p) = decide (q < p) := by
  apply decide_eq_decide.mpr
  constructor
  · intro h
    refine Nat.lt_of_not_le (fun g => ?_)
    have := ix_mono (s := s) g
    omega
  · intro h
    exact ix_strict hq h
theorem rk_en {N : Nat} {s X Y W : Nat → Nat} {P Q : Nat → Bool} {w : Nat → Nat} (hP : ∀ p, p < N → hdB s p = true → P (ixB s p) = Q p) (hw : ∀ p, p < N → hdB s p = true → w (ixB s p) = wtB W (s p) N) {p : Nat} (hp : p < N) (hd : hdB s p = true) :
    rkG P w (ixB s N) (ixB s p) = rkP Q s W N p := by
  unfold rkG rkP
  refine en_cnt (s := s) (P := fun k => P k && ahB w (ixB s p) k) (Q := fun q => Q q && ahB (wS W N s) p q) (N := N) (fun q hq hdq => ?_) N (Nat.le_refl _)
  unfold ahB wS
  rw [hP q hq hdq, hw q hq hdq, hw p hp hd, ix_ltE hd hdq]
theorem heavyS {F N : Nat} {s X Y W : Nat → Nat} {cnt : Int32} {groupAt sets weights xs ys : Nat → Int32} {P Q : Nat → Bool} (hF : 1000 ≤ F) (hN : N ≤ 24) (hW : ∀ i, i < N → W i ≤ 99) (h : SCALE N s X Y W cnt groupAt sets weights xs ys) (hP : ∀ p, p < N → hdB s p = true → P (ixB s p) = Q p) (i : Int32) :
    mX5_heaviest F (nI (mkB P (ixB s N))) i cnt weights = some (oI ((fstB (fun p => hdB s p && (Q p && decide (nI (rkP Q s W N p) = i))) N).map (ixB s))) := by
  have hC : ixB s N ≤ N := ix_lt
  have ⟨a, b⟩ := wG_of hN hW h
  rw [show cnt = nI (ixB s N) from h.1, heavy5 hF (by omega) b]
  rw [en_fst (s := s) (Q := fun p => Q p && decide (nI (rkP Q s W N p) = i)) (N := N) (fun p hp hd => by rw [hP p hp hd, rk_en (X := X) (Y := Y) (P := P) (Q := Q) hP a hp hd])]
theorem top9_in {F N p : Nat} {s X Y W : Nat → Nat} {part w x y : Nat → Int32} (hF : 1000 ≤ F) (gd : GOOD N X Y W) (hP : ROWS N X Y W w x y) (hS : PART N s) (h : ∀ p, p < N → part p = nI (s p)) (hp : p < N) (x0 x1 y0 y1 : Int32) :
    loop (fun s70 : Int32 × Int32 => mX9_top_b70 F x0 x1 y0 y1 (nI N) w x y part (nI p) s70.1 s70.2) F ((0 : Int32), (0 : Int32)) = some (nI (rkP (cQ X Y W N s x0 x1 y0 y1) s W N p)) := by
  have hN := gd.1
  have hW : ∀ i, i < N → W i ≤ 99 := fun i hi => (gd.2.2.1 i hi).2
  have ⟨p24, _⟩ := part_24 hN hS hp
  refine lp (fun k => (nI (cntB (fun q => hdB s q && (cQ X Y W N s x0 x1 y0 y1 q && ahB (wS W N s) p q)) k), nI k)) 0 N _ (by omega) rfl (fun k _ hk => ?_) ?_ (by omega)
  · have f := isFirst9 (F := F) hF hN hS h hk
    have ic := isCentred9 (F := F) hF gd hP hS hk x0 x1 y0 y1
    have ⟨q24, _⟩ := part_24 hN hS hk
    have w1 := weight9 (F := F) hF hN (show s k < 2 ^ 31 by omega) (rows_w hP)
    have w2 := weight9 (F := F) hF hN (show s p < 2 ^ 31 by omega) (rows_w hP)
    have l1 := wtB_le (m := s k) hN hW
    have l2 := wtB_le (m := s p) hN hW
    unfold mX9_top_b70
    simp only []
    rw [if_neg (by rw [nI_leE (by omega) (by omega)]; omega), f, Option.bind_some, nI_1]
    rw [show cntB (fun q => hdB s q && (cQ X Y W N s x0 x1 y0 y1 q && ahB (wS W N s) p q)) (k + 1) = cntB (fun q => hdB s q && (cQ X Y W N s x0 x1 y0 y1 q && ahB (wS W N s) p q)) k + (if (hdB s k && (cQ X Y W N s x0 x1 y0 y1 k && ahB (wS W N s) p k)) = true then 1 else 0) from rfl]
    cases e : hdB s k with
    | false => rw [if_pos (by rw [k0F]; trivial)]; rfl
    | true =>
      rw [if_neg (by rw [k0T]; exact id), rdI_n (by omega) (by omega), Option.bind_some, h k hk, ic, Option.bind_some]
      cases e2 : cQ X Y W N s x0 x1 y0 y1 k with
      | false => rw [if_pos (by rw [k0F]; trivial)]; rfl
      | true =>
        rw [if_neg (by rw [k0T]; exact id), Option.bind_some, w1, Option.bind_some, rdI_n (by omega) (by omega), Option.bind_some, h p hp, w2, Option.bind_some, nI_1]
        have hah : ahB (wS W N s) p k = (decide (wtB W (s p) N < wtB W (s k) N) || (decide (wtB W (s k) N = wtB W (s p) N) && decide (k < p))) := rfl
        by_cases h1 : wtB W (s p) N < wtB W (s k) N
        · have ea : ahB (wS W N s) p k = true := by rw [hah, decide_eq_true h1]; rfl
          rw [if_pos ((nI_ltI (by omega) (by omega)).mpr h1), Option.bind_some, ea]; rfl
        · rw [if_neg (fun q => h1 ((nI_ltI (by omega) (by omega)).mp q))]
          by_cases h2 : wtB W (s k) N = wtB W (s p) N
          · rw [if_pos (congrArg nI h2)]
            by_cases h3 : p ≤ k
            · have ea : ahB (wS W N s) p k = false := by rw [hah, decide_eq_false h1, decide_eq_false (show ¬ k < p by omega), Bool.and_false]; rfl
              rw [if_pos ((nI_leI (by omega) (by omega)).mpr h3), ea]; rfl
            · have ea : ahB (wS W N s) p k = true := by rw [hah, decide_eq_true h2, decide_eq_true (show k < p by omega), Bool.and_true, Bool.or_true]
              rw [if_neg (fun q => h3 ((nI_leI (by omega) (by omega)).mp q)), Option.bind_some, ea]; rfl
          · have ea : ahB (wS W N s) p k = false := by rw [hah, decide_eq_false h1, decide_eq_false h2]; rfl
            rw [if_neg (fun q => h2 ((nI_eq (by omega) (by omega)).mp q)), ea]; rfl
  · unfold mX9_top_b70
    simp only []
    rw [if_pos (by rw [nI_leE (by omega) (by omega)]; omega)]
    rfl
theorem call_top {F : Nat} (hF : 5000 ≤ F) : Call_top F INV := by
  intro ca cl ci fr a1 a2 a3 a4 a5 a6 h
  have h0 := h
  obtain ⟨N, M, S, X, Y, W, U, V, Z, ⟨g1, g2, g3, g4, g5, g6⟩, ⟨i8, i9, i15, i2, i3, i18, i19⟩, ⟨r1, r2, r3⟩, h4, h5, h6, h7⟩ := h
  have hN := g1.1
  rcases zm_or a1 with ⟨z, hz, rfl, z1, z2⟩ | hz
  · have hS := szB_part (X := X) (Y := Y) (z := z) hN
    have zd := decide_eq_true (p := 0 ≤ (nI z).toInt ∧ (nI z).toInt ≤ 10) ⟨z1, z2⟩
    obtain ⟨r, er, gr⟩ := cutZ (F := F) (by omega) g1 r1 h4 hz i8 i9 (ci 11) (ca 38) (ca 39) (ca 40) (ca 41) (ca 42)
    obtain ⟨t, et, gt⟩ := laysZoom9 (F := F) (by omega) hN g1.2.1 hz h6 (ca 68)
    have ⟨c5, c5b⟩ := centres5 (F := F) (by omega) hN gr a2 a3 a4 a5
    have hv := heavyS (F := F) (by omega) hN (fun i hi => (g1.2.2.1 i hi).2) gr c5b a6
    have e8 : mX8_top F (nI z) a2 a3 a4 a5 a6 (ci 8) (ci 9) (ci 11) (ca 19) (ca 25) (ca 26) (ca 27) (ca 28) (ca 38) (ca 39) (ca 40) (ca 41) (ca 42) =
        some (oI ((fstB (fun p => hdB (szB X Y N z) p && (cQ X Y W N (szB X Y N z) a2 a3 a4 a5 p && decide (nI (rkP (cQ X Y W N (szB X Y N z) a2 a3 a4 a5) (szB X Y N z) W N p) = a6))) N).map (ixB (szB X Y N z))), r) := by
      unfold mX8_top
      rw [isZoom8, zd, Option.bind_some, if_neg (by rw [k0T]; exact id), er, Option.bind_some, c5, Option.bind_some, hv, Option.bind_some]
    have e9 : mX9_top F (nI z) a2 a3 a4 a5 a6 (ci 14) (ci 15) (ca 64) (ca 68) (ca 73) (ca 80) (ca 81) (ca 82) =
        some (oI ((fstB (fun p => hdB (szB X Y N z) p && (cQ X Y W N (szB X Y N z) a2 a3 a4 a5 p && decide (nI (rkP (cQ X Y W N (szB X Y N z) a2 a3 a4 a5) (szB X Y N z) W N p) = a6))) N).map (ixB (szB X Y N z))), 0, t) := by
      have lo9 : loop (fun s23 => mX9_top_b23 F a2 a3 a4 a5 a6 (nI N) (ca 73) (ca 81) (ca 82) t s23) F (0 : Int32) = some (match fstB (fun p => hdB (szB X Y N z) p && (cQ X Y W N (szB X Y N z) a2 a3 a4 a5 p && decide (nI (rkP (cQ X Y W N (szB X Y N z) a2 a3 a4 a5) (szB X Y N z) W N p) = a6))) N with | some k => (Sum.inl (nI k) : Int32 ⊕ (Int32 × Int32 × (Nat → Int32))) | none => Sum.inr (-1, 0, t)) := by
        refine lpS nI (fun p => hdB (szB X Y N z) p && (cQ X Y W N (szB X Y N z) a2 a3 a4 a5 p && decide (nI (rkP (cQ X Y W N (szB X Y N z) a2 a3 a4 a5) (szB X Y N z) W N p) = a6))) N (fun k => (Sum.inl (nI k) : Int32 ⊕ (Int32 × Int32 × (Nat → Int32)))) (Sum.inr (-1, 0, t)) rfl (fun k hk _ => ?_) (fun _ => ?_) (by omega)
        · have f := isFirst9 (F := F) (by omega) hN hS gt hk
          have ic := isCentred9 (F := F) (by omega) g1 r2 hS hk a2 a3 a4 a5
          have ti := top9_in (F := F) (by omega) g1 r2 hS gt hk a2 a3 a4 a5
          unfold mX9_top_b23
          rw [if_neg (by rw [nI_leE (by omega) (by omega)]; omega), f, Option.bind_some, nI_1]
          cases e : hdB (szB X Y N z) k with
          | false => rw [if_pos (by rw [k0F]; trivial)]; rfl
          | true =>
            rw [if_neg (by rw [k0T]; exact id), rdI_n (by omega) (by omega), Option.bind_some, gt k hk, ic, Option.bind_some, Bool.true_and]
            cases e2 : cQ X Y W N (szB X Y N z) a2 a3 a4 a5 k with
            | false => rw [if_pos (by rw [k0F]; trivial)]; rfl
            | true =>
              rw [if_neg (by rw [k0T]; exact id), ti, Option.bind_some, Bool.true_and]
              by_cases c : nI (rkP (cQ X Y W N (szB X Y N z) a2 a3 a4 a5) (szB X Y N z) W N k) = a6
              · rw [if_pos c, if_pos (decide_eq_true c)]
              · rw [if_neg c, if_neg (by rw [decide_eq_false c]; decide)]
        · unfold mX9_top_b23
          rw [if_pos (by rw [nI_leE (by omega) (by omega)]; omega)]
      unfold mX9_top
      rw [isZoom9, zd, Option.bind_some, if_neg (by rw [k0T]; exact id), i15, et, Option.bind_some, lo9, Option.bind_some]
      cases ef : fstB (fun p => hdB (szB X Y N z) p && (cQ X Y W N (szB X Y N z) a2 a3 a4 a5 p && decide (nI (rkP (cQ X Y W N (szB X Y N z) a2 a3 a4 a5) (szB X Y N z) W N p) = a6))) N with
      | none => rfl
      | some q =>
        have ⟨q1, q2, _⟩ := fstB_some.mp ef
        have hq : hdB (szB X Y N z) q = true := ((Bool.and_eq_true _ _).mp q2).1
        have n9 := number9 (F := F) (by omega) hN hS gt q1
        have el : lo (szB X Y N z q) = q := of_decide_eq_true hq
        simp only []
        rw [n9, Option.bind_some, el]
        rfl
    exact ⟨_, _, e8, e9, rfl, h0⟩
  · refine ⟨?r8c, ?r9c, ?e8c, ?e9c, ?restc⟩
    case e8c =>
      unfold mX8_top
      rw [isZoom8, decide_eq_false hz, Option.bind_some, if_pos (by rw [k0F]; trivial)]
    case e9c =>
      unfold mX9_top
      rw [isZoom9, decide_eq_false hz, Option.bind_some, if_pos (by rw [k0F]; trivial)]
    case restc => exact ⟨rfl, h0⟩
/-- the points of a tile -/
def tlB (z : Nat) (tx ty : Int32) (xs ys : Nat → Int32) (N : Nat) : Nat := mkB (inW (tx * nI (rad z)) (tx * nI (rad z) + nI (rad z) - 1) (ty * nI (rad z)) (ty * nI (rad z) + nI (rad z) - 1) xs ys) N
theorem tile4 {F N z : Nat} (hF : 1000 ≤ F) (hN : N ≤ 24) (hz : z ≤ 10) (tx ty : Int32) (xs ys : Nat → Int32) : mX8_pointsInTile F (nI z) tx ty (nI N) xs ys = some (nI (tlB z tx ty xs ys N)) := by
  unfold mX8_pointsInTile tlB
  rw [radI hz, Option.bind_some, Option.bind_some, Option.bind_some, within4 hF hN, Option.bind_some]
theorem tile9 {F N z : Nat} (hF : 1000 ≤ F) (hN : N ≤ 24) (hz : z ≤ 10) (tx ty : Int32) (xs ys : Nat → Int32) : mX9_tileSet F (nI z) tx ty (nI N) xs ys = some (nI (tlB z tx ty xs ys N)) := by
  unfold mX9_tileSet tlB
  rw [radius9 hz, Option.bind_some, within9 hF hN, Option.bind_some]
theorem tl_congr {N z : Nat} {xs ys xs' ys' : Nat → Int32} (h : ∀ i, i < N → xs i = xs' i ∧ ys i = ys' i) (tx ty : Int32) : tlB z tx ty xs ys N = tlB z tx ty xs' ys' N := inW_congr h _ _ _ _
def quB (z : Nat) (tx ty : Int32) (xs ys : Nat → Int32) (N : Nat) (k : Nat) : Bool := !decide (tlB (z + 1) (2 * tx + nI (k % 2)) (2 * ty + nI (k / 2)) xs ys N = 0)
theorem quart8 {F N z : Nat} (hF : 1000 ≤ F) (hN : N ≤ 24) (hz : z < 10) (tx ty : Int32) (xs ys : Nat → Int32) : mX8_filledQuarters F (nI z) tx ty (nI N) xs ys = some (nI (mkB (quB z tx ty xs ys N) 4)) := by
  unfold mX8_filledQuarters
  refine lp (fun k => (nI (mkB (quB z tx ty xs ys N) k), nI k)) 0 4 _ (by omega) rfl (fun k _ hk => ?_) ?_ (by omega)
  · have hs := setbit (mk_lt31 (quB z tx ty xs ys N) (k := k) (by omega)) (k := k) (by omega)
    have e1 : nI k - nI k / (2 : Int32) * (2 : Int32) = nI (k % 2) := pk_rem (d := 2) (by omega) (by omega) (by omega)
    have e2 : nI k / (2 : Int32) = nI (k / 2) := pk_div (d := 2) (by omega) (by omega) (by omega)
    have m24 : tlB (z + 1) (2 * tx + nI (k % 2)) (2 * ty + nI (k / 2)) xs ys N < 2 ^ 24 := mk24 hN
    unfold mX8_filledQuarters_b6
    simp only []
    rw [if_neg (show ¬ (4 : Int32) ≤ nI k by rw [c4, nI_leE (by omega) (by omega)]; omega), e1, e2, nI_1, tile4 hF hN (by omega), Option.bind_some, nI_1, hs]
    simp only [mkB]
    by_cases c : tlB (z + 1) (2 * tx + nI (k % 2)) (2 * ty + nI (k / 2)) xs ys N = 0
    · have eq : quB z tx ty xs ys N k = false := by unfold quB; rw [decide_eq_true c]; rfl
      rw [if_pos (by rw [nI_eq0 (by omega)]; exact c), eq, if_neg (by decide)]
    · have eq : quB z tx ty xs ys N k = true := by unfold quB; rw [decide_eq_false c]; rfl
      rw [if_neg (by rw [nI_eq0 (by omega)]; exact c), Option.bind_some, eq, if_pos rfl]
  · unfold mX8_filledQuarters_b6
    simp only []
    rw [if_pos (show (4 : Int32) ≤ nI 4 from by decide +kernel)]
theorem quart9 {F N z : Nat} (hF : 1000 ≤ F) (hN : N ≤ 24) (hz : z ≤ 10) (tx ty : Int32) (xs ys part : Nat → Int32) : loop (fun s149 : Int32 × Int32 => mX9_tile_b149 F (nI z) tx ty (nI N) part xs ys s149.1 s149.2) F ((0 : Int32), (0 : Int32)) = some (nI (if z = 10 then 0 else mkB (quB z tx ty xs ys N) 4), 0, part) := by
  by_cases h10 : z = 10
  · subst h10
    rw [if_pos rfl]
    refine lp (fun _ => ((0 : Int32), (0 : Int32))) 0 0 _ (by omega) rfl (fun k _ hk => by omega) ?_ (by omega)
    unfold mX9_tile_b149
    rw [if_neg (by decide +kernel), if_pos (by decide +kernel)]
    rfl
  · rw [if_neg h10]
    refine lp (fun k => (nI (mkB (quB z tx ty xs ys N) k), nI k)) 0 4 _ (by omega) rfl (fun k _ hk => ?_) ?_ (by omega)
    · have hs := setbit (mk_lt31 (quB z tx ty xs ys N) (k := k) (by omega)) (k := k) (by omega)
      have e1 : nI k &&& (1 : Int32) = nI (k % 2) := by rw [c1, nI_and (by omega) (by omega), Nat.and_one_is_mod]
      have e2 : nI k >>> ((1 : Int32) &&& 31) = nI (k / 2) := nI_shr (m := k) (k := 1) (by omega) (by omega)
      have m24 : tlB (z + 1) (2 * tx + nI (k % 2)) (2 * ty + nI (k / 2)) xs ys N < 2 ^ 24 := mk24 hN
      unfold mX9_tile_b149
      simp only []
      rw [if_neg (show ¬ (4 : Int32) ≤ nI k by rw [c4, nI_leE (by omega) (by omega)]; omega), if_neg (show ¬ (10 : Int32) ≤ nI z by rw [c10, nI_leE (by omega) (by omega)]; omega), e1, e2, nI_1, tile9 hF hN (by omega), Option.bind_some, nI_1, hs]
      simp only [mkB]
      by_cases c : tlB (z + 1) (2 * tx + nI (k % 2)) (2 * ty + nI (k / 2)) xs ys N = 0
      · have eq : quB z tx ty xs ys N k = false := by unfold quB; rw [decide_eq_true c]; rfl
        rw [if_pos (by rw [nI_eq0 (by omega)]; exact c), eq, if_neg (by decide)]
      · have eq : quB z tx ty xs ys N k = true := by unfold quB; rw [decide_eq_false c]; rfl
        rw [if_neg (by rw [nI_eq0 (by omega)]; exact c), Option.bind_some, eq, if_pos rfl]
    · unfold mX9_tile_b149
      simp only []
      rw [if_pos (show (4 : Int32) ≤ nI 4 from by decide +kernel)]
theorem isTile8 {F z : Nat} (hz : z ≤ 10) (t : Int32) : mX8_isTile F (nI z) t = some (bI (decide (0 ≤ t.toInt ∧ t.toInt < (2 ^ z : Nat)))) := by
  have hp : 2 ^ z ≤ 2 ^ 10 := Nat.pow_le_pow_right (by omega) hz
  unfold mX8_isTile
  rw [isZoom8, tI_n (by omega), decide_eq_true (by omega), Option.bind_some, if_neg (by rw [k0T]; exact id), nI_bit (by omega)]
  by_cases h1 : t < 0
  · have h2 := tI_lt.mp h1
    rw [i_0] at h2
    rw [if_pos h1, decide_eq_false (by omega)]; rfl
  · have h2 : ¬ t.toInt < 0 := fun q => h1 (tI_lt.mpr (by rw [i_0]; exact q))
    rw [if_neg h1]
    by_cases h3 : nI (2 ^ z) ≤ t
    · have h4 := tI_le.mp h3
      rw [tI_n (by omega)] at h4
      rw [if_pos h3, decide_eq_false (by omega)]; rfl
    · have h4 : ¬ ((2 ^ z : Nat) : Int) ≤ t.toInt := fun q => h3 (tI_le.mpr (by rw [tI_n (by omega)]; exact q))
      rw [if_neg h3, decide_eq_true (by omega)]; rfl
theorem sh64 : ∀ z : Fin 11, (((1 : Int64) <<< ((nI z.val).toInt64 &&& 63)) - (1 : Int64)).toInt = (2 ^ z.val : Nat) - 1 := by decide +kernel
theorem isTile9 {F z : Nat} (hz : z ≤ 10) (t : Int32) : mX9_isIn F t.toInt64 (0 : Int64) (((1 : Int64) <<< ((nI z).toInt64 &&& 63)) - (1 : Int64)) = some (bI (decide (0 ≤ t.toInt ∧ t.toInt < (2 ^ z : Nat)))) := by
  have h := sh64 ⟨z, by omega⟩
  simp only [] at h
  rw [isInI9, l_0, h]
  congr 2
  apply decide_eq_decide.mpr
  omega
theorem call_tile {F : Nat} (hF : 5000 ≤ F) : Call_tile F INV := by
  intro ca cl ci fr a1 a2 a3 a4 h
  have h0 := h
  obtain ⟨N, M, S, X, Y, W, U, V, Z, ⟨g1, g2, g3, g4, g5, g6⟩, ⟨i8, i9, i15, i2, i3, i18, i19⟩, ⟨r1, r2, r3⟩, h4, h5, h6, h7⟩ := h
  have hN := g1.1
  rcases zm_or a1 with ⟨z, hz, rfl, z1, z2⟩ | hz
  · have hS := szB_part (X := X) (Y := Y) (z := z) hN
    have z9 := isZoom9 F (nI z)
    rw [decide_eq_true (p := 0 ≤ (nI z).toInt ∧ (nI z).toInt ≤ 10) ⟨z1, z2⟩] at z9
    have ta := isTile8 (F := F) hz a2
    have tb := isTile8 (F := F) hz a3
    have ua := isTile9 (F := F) hz a2
    have ub := isTile9 (F := F) hz a3
    have i9' := isInI9 F a4 0 3
    rw [l_0, l_3] at i9'
    have i_3 : (3 : Int32).toInt = 3 := by decide +kernel
    have i_2 : (2 : Int32).toInt = 2 := by decide +kernel
    have key : ∀ (v : Int32) (r : Int32 × (Nat → Int32) × (Nat → Int32) × (Nat → Int32) × (Nat → Int32) × (Nat → Int32)) (t : Nat → Int32), mX8_tile F (nI z) a2 a3 a4 (ci 8) (ci 9) (ci 11) (ca 19) (ca 25) (ca 26) (ca 27) (ca 28) (ca 38) (ca 39) (ca 40) (ca 41) (ca 42) = some (v, r) →
        mX9_tile F (nI z) a2 a3 a4 (ci 14) (ci 15) (ca 64) (ca 68) (ca 73) (ca 80) (ca 81) (ca 82) = some (v, 0, t) → _ := fun v r t e8 e9 => (⟨_, _, e8, e9, rfl, h0⟩ : ∃ r8 r9, mX8_tile F (nI z) a2 a3 a4 (ci 8) (ci 9) (ci 11) (ca 19) (ca 25) (ca 26) (ca 27) (ca 28) (ca 38) (ca 39) (ca 40) (ca 41) (ca 42) = some r8 ∧ mX9_tile F (nI z) a2 a3 a4 (ci 14) (ci 15) (ca 64) (ca 68) (ca 73) (ca 80) (ca 81) (ca 82) = some r9 ∧ r8.1 = r9.1 ∧ INV (fun j => cond (Nat.beq j 38) ((r8.2.2.1)) (cond (Nat.beq j 39) ((r8.2.2.2.1)) (cond (Nat.beq j 40) ((r8.2.2.2.2.1)) (cond (Nat.beq j 41) ((r8.2.2.2.2.2.1)) (cond (Nat.beq j 42) ((r8.2.2.2.2.2.2)) (cond (Nat.beq j 68) ((r9.2.2)) (ca j))))))) cl (fun j => cond (Nat.beq j 11) ((r8.2.1)) (cond (Nat.beq j 14) ((r9.2.1)) (ci j))))
    by_cases c : (0 ≤ a2.toInt ∧ a2.toInt < (2 ^ z : Nat)) ∧ (0 ≤ a3.toInt ∧ a3.toInt < (2 ^ z : Nat))
    · rw [decide_eq_true c.1] at ta ua
      rw [decide_eq_true c.2] at tb ub
      have t4 := tile4 (F := F) (by omega) hN hz a2 a3 (ca 27) (ca 28)
      have t9 := tile9 (F := F) (by omega) hN hz a2 a3 (ca 81) (ca 82)
      rw [← tl_congr (rows_eq r1 r2)] at t9
      have m24 : tlB z a2 a3 (ca 27) (ca 28) N < 2 ^ 24 := mk24 hN
      by_cases q0 : a4 = 0
      · subst q0
        refine key (nI (cntB (tlB z a2 a3 (ca 27) (ca 28) N).testBit 24)) (ci 11, ca 38, ca 39, ca 40, ca 41, ca 42) (ca 68) ?_ ?_
        · unfold mX8_tile
          rw [ta, Option.bind_some, if_neg (by rw [k0T]; exact id), tb, Option.bind_some, if_neg (by rw [k0T]; exact id), i9, t4, Option.bind_some, if_pos rfl, bitCnt_n m24, Option.bind_some]
        · unfold mX9_tile
          rw [z9, Option.bind_some, if_neg (by rw [k0T]; exact id), ua, Option.bind_some, if_neg (by rw [k0T]; exact id), ub, Option.bind_some, if_neg (by rw [k0T]; exact id), i9', decide_eq_true (by rw [i_0]; omega), Option.bind_some, if_neg (by rw [k0T]; exact id), i15, t9, Option.bind_some, if_pos rfl, bits9 (by omega) (by omega), Option.bind_some]
      · by_cases q1 : a4 = 1
        · subst q1
          refine key (nI (wtB W (tlB z a2 a3 (ca 27) (ca 28) N) N)) (ci 11, ca 38, ca 39, ca 40, ca 41, ca 42) (ca 68) ?_ ?_
          · unfold mX8_tile
            rw [ta, Option.bind_some, if_neg (by rw [k0T]; exact id), tb, Option.bind_some, if_neg (by rw [k0T]; exact id), i9, t4, Option.bind_some, if_neg q0, if_pos rfl, weight4 (by omega) hN (by omega) (rows_w r1), Option.bind_some]
          · unfold mX9_tile
            rw [z9, Option.bind_some, if_neg (by rw [k0T]; exact id), ua, Option.bind_some, if_neg (by rw [k0T]; exact id), ub, Option.bind_some, if_neg (by rw [k0T]; exact id), i9', decide_eq_true (by rw [i_1]; omega), Option.bind_some, if_neg (by rw [k0T]; exact id), i15, t9, Option.bind_some, if_neg q0, if_pos rfl, weight9 (by omega) hN (by omega) (rows_w r2), Option.bind_some]
        · by_cases q2 : a4 = 2
          · subst q2
            obtain ⟨r, er, gr⟩ := cutZ (F := F) (by omega) g1 r1 h4 hz i8 i9 (ci 11) (ca 38) (ca 39) (ca 40) (ca 41) (ca 42)
            obtain ⟨t, et, gt⟩ := laysZoom9 (F := F) (by omega) hN g1.2.1 hz h6 (ca 68)
            have ⟨c5, c5b⟩ := centres5 (F := F) (by omega) hN gr (a2 * nI (rad z)) (a2 * nI (rad z) + nI (rad z) - 1) (a3 * nI (rad z)) (a3 * nI (rad z) + nI (rad z) - 1)
            have ⟨n0, n1⟩ := centred9 (F := F) (by omega) g1 r2 hS gt (a2 * nI (rad z)) (a2 * nI (rad z) + nI (rad z) - 1) (a3 * nI (rad z)) (a3 * nI (rad z) + nI (rad z) - 1)
            have b5 := bits_en hN c5b
            refine key (nI (cntB (fun p => hdB (szB X Y N z) p && cQ X Y W N (szB X Y N z) (a2 * nI (rad z)) (a2 * nI (rad z) + nI (rad z) - 1) (a3 * nI (rad z)) (a3 * nI (rad z) + nI (rad z) - 1) p) N)) r t ?_ ?_
            · unfold mX8_tile
              rw [er, ta, Option.bind_some, if_neg (by rw [k0T]; exact id), tb, Option.bind_some, if_neg (by rw [k0T]; exact id), i9, t4, Option.bind_some, if_neg q0, if_neg q1, if_pos rfl, radI hz, Option.bind_some, Option.bind_some, Option.bind_some, Option.bind_some, c5, Option.bind_some, b5, Option.bind_some]
            · unfold mX9_tile
              rw [z9, Option.bind_some, if_neg (by rw [k0T]; exact id), ua, Option.bind_some, if_neg (by rw [k0T]; exact id), ub, Option.bind_some, if_neg (by rw [k0T]; exact id), i9', decide_eq_true (by rw [i_2]; omega), Option.bind_some, if_neg (by rw [k0T]; exact id), i15, t9, Option.bind_some, if_neg q0, if_neg q1, radius9 hz, Option.bind_some, if_pos rfl, et, Option.bind_some, n0, Option.bind_some]
          · by_cases q3 : a4 = 3
            · subst q3
              have q9 := quart9 (F := F) (by omega) hN hz a2 a3 (ca 81) (ca 82) (ca 68)
              have ec : mkB (quB z a2 a3 (ca 81) (ca 82) N) 4 = mkB (quB z a2 a3 (ca 27) (ca 28) N) 4 := mkB_congr (fun k hk => by unfold quB; rw [tl_congr (rows_eq r1 r2)])
              rw [ec] at q9
              refine key (nI (if z = 10 then 0 else mkB (quB z a2 a3 (ca 27) (ca 28) N) 4)) (ci 11, ca 38, ca 39, ca 40, ca 41, ca 42) (ca 68) ?_ ?_
              · unfold mX8_tile
                rw [ta, Option.bind_some, if_neg (by rw [k0T]; exact id), tb, Option.bind_some, if_neg (by rw [k0T]; exact id), i9, t4, Option.bind_some, if_neg q0, if_neg q1, if_neg q2, if_pos rfl]
                by_cases e10 : z = 10
                · subst e10
                  rw [if_pos (show nI 10 = (10 : Int32) from rfl), if_pos rfl]
                  rfl
                · rw [if_neg (show ¬ nI z = (10 : Int32) by rw [c10, nI_eqE (by omega) (by omega)]; exact e10), quart8 (by omega) hN (by omega), Option.bind_some, if_neg e10]
              · unfold mX9_tile
                rw [z9, Option.bind_some, if_neg (by rw [k0T]; exact id), ua, Option.bind_some, if_neg (by rw [k0T]; exact id), ub, Option.bind_some, if_neg (by rw [k0T]; exact id), i9', decide_eq_true (by rw [i_3]; omega), Option.bind_some, if_neg (by rw [k0T]; exact id), i15, t9, Option.bind_some, if_neg q0, if_neg q1, radius9 hz, Option.bind_some, if_neg q2, q9]
            · have no : ¬ (0 ≤ a4.toInt ∧ a4.toInt ≤ 3) := by
                intro q
                have e0 : a4.toInt ≠ 0 := fun e => q0 (tI_ext (by rw [e, i_0]))
                have e1 : a4.toInt ≠ 1 := fun e => q1 (tI_ext (by rw [e, i_1]))
                have e2 : a4.toInt ≠ 2 := fun e => q2 (tI_ext (by rw [e, i_2]))
                have e3 : a4.toInt ≠ 3 := fun e => q3 (tI_ext (by rw [e, i_3]))
                omega
              refine key (-1) (ci 11, ca 38, ca 39, ca 40, ca 41, ca 42) (ca 68) ?_ ?_
              · unfold mX8_tile
                rw [ta, Option.bind_some, if_neg (by rw [k0T]; exact id), tb, Option.bind_some, if_neg (by rw [k0T]; exact id), i9, t4, Option.bind_some, if_neg q0, if_neg q1, if_neg q2, if_neg q3]
              · unfold mX9_tile
                rw [z9, Option.bind_some, if_neg (by rw [k0T]; exact id), ua, Option.bind_some, if_neg (by rw [k0T]; exact id), ub, Option.bind_some, if_neg (by rw [k0T]; exact id), i9', decide_eq_false no, Option.bind_some, if_pos (by rw [k0F]; trivial)]
    · refine key (-1) (ci 11, ca 38, ca 39, ca 40, ca 41, ca 42) (ca 68) ?_ ?_
      · unfold mX8_tile
        by_cases c1 : 0 ≤ a2.toInt ∧ a2.toInt < (2 ^ z : Nat)
        · rw [ta, decide_eq_true c1, Option.bind_some, if_neg (by rw [k0T]; exact id), tb, decide_eq_false (fun c2 => c ⟨c1, c2⟩), Option.bind_some, if_pos (by rw [k0F]; trivial)]
        · rw [ta, decide_eq_false c1, Option.bind_some, if_pos (by rw [k0F]; trivial)]
      · unfold mX9_tile
        rw [z9, Option.bind_some, if_neg (by rw [k0T]; exact id)]
        by_cases c1 : 0 ≤ a2.toInt ∧ a2.toInt < (2 ^ z : Nat)
        · rw [ua, decide_eq_true c1, Option.bind_some, if_neg (by rw [k0T]; exact id), ub, decide_eq_false (fun c2 => c ⟨c1, c2⟩), Option.bind_some, if_pos (by rw [k0F]; trivial)]
        · rw [ua, decide_eq_false c1, Option.bind_some, if_pos (by rw [k0F]; trivial)]
  · refine ⟨?r8c, ?r9c, ?e8c, ?e9c, ?restc⟩
    case e8c =>
      unfold mX8_tile mX8_isTile
      rw [isZoom8, decide_eq_false hz, Option.bind_some, if_pos (by rw [k0F]; trivial), Option.bind_some, if_pos rfl]
    case e9c =>
      unfold mX9_tile
      rw [isZoom9, decide_eq_false hz, Option.bind_some, if_pos (by rw [k0F]; trivial)]
    case restc => exact ⟨rfl, h0⟩
