/-! ===== p42: the law's walk, the second half ===== -/
set_option maxRecDepth 100000 in
set_option maxHeartbeats 4000000 in
theorem w_loop9 {X : GX} {l0 : Launch} {D0 : va_G} {cI cJ cZ cY : ClassId} (S : Sx X cL_law TsL RL 15 room_1 (TYS cI cJ cZ cY) D0 l0) {b L : Nat} {xs : Nat → Int32} (hXs : Xs X b L xs) (hL : L ≤ 260) {a a' : Nat} {F N : Nat} {X1 Y1 W1 : Nat → Nat} {m3 : Int32} (hF : 5000 ≤ F) (hN : N ≤ 24) {z k p : Nat} (hz : z < 10) (hp : p < N) (hd : hdB (szB X1 Y1 N z) p = true) (hk : ixB (szB X1 Y1 N z) p = k) {i q : Nat} {x11 : Int32} (hq : q < N) (hdq : hdB (szB X1 Y1 N (z + 1)) q = true) (hpq : (szB X1 Y1 N z p).testBit q = true) (k9 : GW X cI cJ cZ cY a a' 521 [(0, .ref b), (1, .ref a), (2, .ref a'), (3, .int m3), (4, .int (nI N)), (5, .int (nI z)), (6, .int (nI (grN X1 Y1 N z))), (7, .int (nI (sumB (szF X1 Y1 N z) (k + 1)))), (8, .int (nI (sumB (wtF X1 Y1 W1 N z) (k + 1)))), (9, .int (nI (sumB (spF X1 Y1 N z) (k + 1)))), (10, .int (nI k)), (11, .int x11), (12, .int (nI (i + 1)))] [] (N, X1, Y1, W1) (N, X1, Y1, W1)) : ∀ (d r : Nat), r + d = cntB (szB X1 Y1 N (z + 1) q).testBit 24 → GW X cI cJ cZ cY a a' 574 [(0, .ref b), (1, .ref a), (2, .ref a'), (3, .int m3), (4, .int (nI N)), (5, .int (nI z)), (6, .int (nI (grN X1 Y1 N z))), (7, .int (nI (sumB (szF X1 Y1 N z) (k + 1)))), (8, .int (nI (sumB (wtF X1 Y1 W1 N z) (k + 1)))), (9, .int (nI (sumB (spF X1 Y1 N z) (k + 1)))), (10, .int (nI k)), (11, .int x11), (12, .int (nI i)), (13, .int (nI (ixB (szB X1 Y1 N (z + 1)) q))), (14, .int (nI r))] [] (N, X1, Y1, W1) (N, X1, Y1, W1) := by
  have hS2 := szB_part (X := X1) (Y := Y1) (z := z + 1) hN
  have m24 := cntB_le (szB X1 Y1 N (z + 1) q).testBit 24
  have mN := m_cut (hS2 q hq).2.1 24 hN
  intro d
  induction d with
  | zero =>
    intro r hr
    refine gg1 (fun ws kG => r_iload S dL_law_574 14 rfl kG) ?_
    refine gg1 (fun ws kG => r_aload_n S dL_law_576 rfl 1 rfl kG) ?_
    refine gg1 (fun ws kG => r_iload S dL_law_577 5 rfl kG) ?_
    refine gg1 (fun ws kG => r_iconst (v := (1 : Int32)) S dL_law_579 rfl kG) ?_
    refine gg1 (fun ws kG => r_iadd S dL_law_580 kG) ?_
    refine gg1 (fun ws kG => r_topI (y := (nI (z + 1))) (by rw [show nI z + (1 : Int32) = nI (z + 1) from nI_add z 1]) kG) ?_
    refine gg1 (fun ws kG => r_iload S dL_law_581 13 rfl kG) ?_
    refine gg1 (fun ws kG => r_iconst (v := (1 : Int32)) S dL_law_583 rfl kG) ?_
    refine gg_group_h S (ans_group1 hF (show z + 1 ≤ 10 by omega) hq hdq) (Nat.le_of_ble_eq_true rfl) dL_law_584 (is_k ?_)
    refine gg2 (fun ws kt kf => r_icmp_ge 621 S dL_law_587 (by decide) kt kf) (fun c => ?_) (fun c => absurd (show nI (cntB (szB X1 Y1 N (z + 1) q).testBit 24) ≤ nI r by rw [show r = cntB (szB X1 Y1 N (z + 1) q).testBit 24 by omega]; exact Int32.le_refl _) c)
    refine gg1 (fun ws kG => r_iincc S dL_law_621 12 rfl (c0 := (1 : Int32)) rfl (nI_add i 1) (Nat.le_of_ble_eq_true rfl) (lv' := [(12, .int (nI (i + 1))), (0, .ref b), (1, .ref a), (2, .ref a'), (3, .int m3), (4, .int (nI N)), (5, .int (nI z)), (6, .int (nI (grN X1 Y1 N z))), (7, .int (nI (sumB (szF X1 Y1 N z) (k + 1)))), (8, .int (nI (sumB (wtF X1 Y1 W1 N z) (k + 1)))), (9, .int (nI (sumB (spF X1 Y1 N z) (k + 1)))), (10, .int (nI k)), (11, .int x11), (13, .int (nI (ixB (szB X1 Y1 N (z + 1)) q))), (14, .int (nI r))]) rfl kG) ?_
    refine gg1 (fun ws kG => r_goto 521 S dL_law_624 (by decide) kG) ?_
    refine gg1 (fun ws kG => r_lv [1, 2, 3, 4, 5, 6, 7, 8, 9, 10, 11, 12, 0] (lv' := [(0, .ref b), (1, .ref a), (2, .ref a'), (3, .int m3), (4, .int (nI N)), (5, .int (nI z)), (6, .int (nI (grN X1 Y1 N z))), (7, .int (nI (sumB (szF X1 Y1 N z) (k + 1)))), (8, .int (nI (sumB (wtF X1 Y1 W1 N z) (k + 1)))), (9, .int (nI (sumB (spF X1 Y1 N z) (k + 1)))), (10, .int (nI k)), (11, .int x11), (12, .int (nI (i + 1)))]) rfl kG) ?_
    exact k9
  | succ d ih =>
    intro r hr
    obtain ⟨x, x1, x2, x3, x4⟩ := m_find (t := (szB X1 Y1 N (z + 1) q).testBit) (i := r) hN (by omega)
    have A := ans_member (F := F) (W := W1) hF (show z + 1 ≤ 10 by omega) hq hdq (nI r)
    rw [x4] at A
    replace A : Ans_member F (N, X1, Y1, W1) (nI (z + 1)) (nI (ixB (szB X1 Y1 N (z + 1)) q)) (nI r) (IS (nI x) (N, X1, Y1, W1)) := A
    have B := ans_groupOf (F := F) (X := X1) (Y := Y1) (W := W1) hF (show z ≤ 10 by omega) x1
    rw [m_mem hN hp hq x1 hd hpq x2, hk] at B
    refine gg1 (fun ws kG => r_iload S dL_law_574 14 rfl kG) ?_
    refine gg1 (fun ws kG => r_aload_n S dL_law_576 rfl 1 rfl kG) ?_
    refine gg1 (fun ws kG => r_iload S dL_law_577 5 rfl kG) ?_
    refine gg1 (fun ws kG => r_iconst (v := (1 : Int32)) S dL_law_579 rfl kG) ?_
    refine gg1 (fun ws kG => r_iadd S dL_law_580 kG) ?_
    refine gg1 (fun ws kG => r_topI (y := (nI (z + 1))) (by rw [show nI z + (1 : Int32) = nI (z + 1) from nI_add z 1]) kG) ?_
    refine gg1 (fun ws kG => r_iload S dL_law_581 13 rfl kG) ?_
    refine gg1 (fun ws kG => r_iconst (v := (1 : Int32)) S dL_law_583 rfl kG) ?_
    refine gg_group_h S (ans_group1 hF (show z + 1 ≤ 10 by omega) hq hdq) (Nat.le_of_ble_eq_true rfl) dL_law_584 (is_k ?_)
    refine gg2 (fun ws kt kf => r_icmp_ge 621 S dL_law_587 (by decide) kt kf) (fun c => absurd c (show ¬ nI (cntB (szB X1 Y1 N (z + 1) q).testBit 24) ≤ nI r by rw [nI_leE (by omega) (by omega)]; omega)) (fun c => ?_)
    refine gg1 (fun ws kG => r_aload_n S dL_law_590 rfl 1 rfl kG) ?_
    refine gg1 (fun ws kG => r_iload S dL_law_591 5 rfl kG) ?_
    refine gg1 (fun ws kG => r_aload_n S dL_law_593 rfl 1 rfl kG) ?_
    refine gg1 (fun ws kG => r_iload S dL_law_594 5 rfl kG) ?_
    refine gg1 (fun ws kG => r_iconst (v := (1 : Int32)) S dL_law_596 rfl kG) ?_
    refine gg1 (fun ws kG => r_iadd S dL_law_597 kG) ?_
    refine gg1 (fun ws kG => r_topI (y := (nI (z + 1))) (by rw [show nI z + (1 : Int32) = nI (z + 1) from nI_add z 1]) kG) ?_
    refine gg1 (fun ws kG => r_iload S dL_law_598 13 rfl kG) ?_
    refine gg1 (fun ws kG => r_iload S dL_law_600 14 rfl kG) ?_
    refine gg_member_h S A (Nat.le_of_ble_eq_true rfl) dL_law_602 (is_k ?_)
    refine gg_groupOf_h S B (Nat.le_of_ble_eq_true rfl) dL_law_605 (is_k ?_)
    refine gg1 (fun ws kG => r_iload S dL_law_608 10 rfl kG) ?_
    refine gg2 (fun ws kt kf => r_icmp_eq 615 S dL_law_610 (by decide) kt kf) (fun c => ?_) (fun c => absurd rfl c)
    refine gg1 (fun ws kG => r_iincc S dL_law_615 14 rfl (c0 := (1 : Int32)) rfl (nI_add r 1) (Nat.le_of_ble_eq_true rfl) (lv' := [(14, .int (nI (r + 1))), (0, .ref b), (1, .ref a), (2, .ref a'), (3, .int m3), (4, .int (nI N)), (5, .int (nI z)), (6, .int (nI (grN X1 Y1 N z))), (7, .int (nI (sumB (szF X1 Y1 N z) (k + 1)))), (8, .int (nI (sumB (wtF X1 Y1 W1 N z) (k + 1)))), (9, .int (nI (sumB (spF X1 Y1 N z) (k + 1)))), (10, .int (nI k)), (11, .int x11), (12, .int (nI i)), (13, .int (nI (ixB (szB X1 Y1 N (z + 1)) q)))]) rfl kG) ?_
    refine gg1 (fun ws kG => r_goto 574 S dL_law_618 (by decide) kG) ?_
    refine gg1 (fun ws kG => r_lv [1, 2, 3, 4, 5, 6, 7, 8, 9, 10, 11, 12, 13, 14, 0] (lv' := [(0, .ref b), (1, .ref a), (2, .ref a'), (3, .int m3), (4, .int (nI N)), (5, .int (nI z)), (6, .int (nI (grN X1 Y1 N z))), (7, .int (nI (sumB (szF X1 Y1 N z) (k + 1)))), (8, .int (nI (sumB (wtF X1 Y1 W1 N z) (k + 1)))), (9, .int (nI (sumB (spF X1 Y1 N z) (k + 1)))), (10, .int (nI k)), (11, .int x11), (12, .int (nI i)), (13, .int (nI (ixB (szB X1 Y1 N (z + 1)) q))), (14, .int (nI (r + 1)))]) rfl kG) ?_
    exact ih (r + 1) (by omega)
set_option maxRecDepth 100000 in
set_option maxHeartbeats 4000000 in
theorem w_loop8 {X : GX} {l0 : Launch} {D0 : va_G} {cI cJ cZ cY : ClassId} (S : Sx X cL_law TsL RL 15 room_1 (TYS cI cJ cZ cY) D0 l0) {b L : Nat} {xs : Nat → Int32} (hXs : Xs X b L xs) (hL : L ≤ 260) {a a' : Nat} {F N : Nat} {X1 Y1 W1 : Nat → Nat} {m3 : Int32} (hF : 5000 ≤ F) (hN : N ≤ 24) {z k p : Nat} (hz : z < 10) (hp : p < N) (hd : hdB (szB X1 Y1 N z) p = true) (hk : ixB (szB X1 Y1 N z) p = k) (k8 : GW X cI cJ cZ cY a a' 627 [(0, .ref b), (1, .ref a), (2, .ref a'), (3, .int m3), (4, .int (nI N)), (5, .int (nI z)), (6, .int (nI (grN X1 Y1 N z))), (7, .int (nI (sumB (szF X1 Y1 N z) (k + 1)))), (8, .int (nI (sumB (wtF X1 Y1 W1 N z) (k + 1)))), (9, .int (nI (sumB (spF X1 Y1 N z) (k + 1)))), (10, .int (nI k)), (11, .int (nI (sumB (sbF X1 Y1 W1 N z p) (spN X1 Y1 N z p)))), (12, .int (nI (spN X1 Y1 N z p)))] [] (N, X1, Y1, W1) (N, X1, Y1, W1)) : ∀ (d i : Nat), i + d = spN X1 Y1 N z p → GW X cI cJ cZ cY a a' 521 [(0, .ref b), (1, .ref a), (2, .ref a'), (3, .int m3), (4, .int (nI N)), (5, .int (nI z)), (6, .int (nI (grN X1 Y1 N z))), (7, .int (nI (sumB (szF X1 Y1 N z) (k + 1)))), (8, .int (nI (sumB (wtF X1 Y1 W1 N z) (k + 1)))), (9, .int (nI (sumB (spF X1 Y1 N z) (k + 1)))), (10, .int (nI k)), (11, .int (nI (sumB (sbF X1 Y1 W1 N z p) i))), (12, .int (nI i))] [] (N, X1, Y1, W1) (N, X1, Y1, W1) := by
  have s24 : spN X1 Y1 N z p ≤ N := cntB_le _ _
  have A11 := ans_group11 (F := F) (W := W1) hF hz hp hd
  rw [hk] at A11
  intro d
  induction d with
  | zero =>
    intro i hi
    refine gg1 (fun ws kG => r_iload S dL_law_521 5 rfl kG) ?_
    refine gg1 (fun ws kG => r_bipush (v := (10 : Int32)) S dL_law_523 rfl kG) ?_
    refine gg2 (fun ws kt kf => r_icmp_ge 627 S dL_law_525 (by decide) kt kf) (fun c => absurd c (show ¬ (10 : Int32) ≤ nI z by rw [c10, nI_leE (by omega) (by omega)]; omega)) (fun c => ?_)
    refine gg1 (fun ws kG => r_iload S dL_law_528 12 rfl kG) ?_
    refine gg1 (fun ws kG => r_aload_n S dL_law_530 rfl 1 rfl kG) ?_
    refine gg1 (fun ws kG => r_iload S dL_law_531 5 rfl kG) ?_
    refine gg1 (fun ws kG => r_iload S dL_law_533 10 rfl kG) ?_
    refine gg1 (fun ws kG => r_bipush (v := (11 : Int32)) S dL_law_535 rfl kG) ?_
    refine gg_group_h S A11 (Nat.le_of_ble_eq_true rfl) dL_law_537 (is_k ?_)
    refine gg2 (fun ws kt kf => r_icmp_ge 627 S dL_law_540 (by decide) kt kf) (fun c => ?_) (fun c => absurd (show nI (spN X1 Y1 N z p) ≤ nI i by rw [show i = spN X1 Y1 N z p by omega]; exact Int32.le_refl _) c)
    rw [show i = spN X1 Y1 N z p by omega]
    exact k8
  | succ d ih =>
    intro i hi
    obtain ⟨q, q1, q2, q3, q4⟩ := m_find (t := inQ (szB X1 Y1 N z p) (szB X1 Y1 N (z + 1))) (N := N) (i := i) hN (show i < spN X1 Y1 N z p by omega)
    have ⟨hdq, hpq⟩ := (Bool.and_eq_true _ _).mp (show (hdB (szB X1 Y1 N (z + 1)) q && (szB X1 Y1 N z p).testBit q) = true from q2)
    have B := ans_splits (F := F) (W := W1) hF hz hp hd (nI i)
    rw [q4, hk] at B
    replace B : Ans_splits F (N, X1, Y1, W1) (nI z) (nI k) (nI i) (IS (nI (ixB (szB X1 Y1 N (z + 1)) q)) (N, X1, Y1, W1)) := B
    have eq : sbF X1 Y1 W1 N z p i = wtB W1 (szB X1 Y1 N (z + 1) q) N := by unfold sbF; rw [← q3, nthT_of q1 q2]
    have esb : nI (sumB (sbF X1 Y1 W1 N z p) i) + nI (wtB W1 (szB X1 Y1 N (z + 1) q) N) = nI (sumB (sbF X1 Y1 W1 N z p) (i + 1)) := by rw [nI_add, ← eq]; rfl
    refine gg1 (fun ws kG => r_iload S dL_law_521 5 rfl kG) ?_
    refine gg1 (fun ws kG => r_bipush (v := (10 : Int32)) S dL_law_523 rfl kG) ?_
    refine gg2 (fun ws kt kf => r_icmp_ge 627 S dL_law_525 (by decide) kt kf) (fun c => absurd c (show ¬ (10 : Int32) ≤ nI z by rw [c10, nI_leE (by omega) (by omega)]; omega)) (fun c => ?_)
    refine gg1 (fun ws kG => r_iload S dL_law_528 12 rfl kG) ?_
    refine gg1 (fun ws kG => r_aload_n S dL_law_530 rfl 1 rfl kG) ?_
    refine gg1 (fun ws kG => r_iload S dL_law_531 5 rfl kG) ?_
    refine gg1 (fun ws kG => r_iload S dL_law_533 10 rfl kG) ?_
    refine gg1 (fun ws kG => r_bipush (v := (11 : Int32)) S dL_law_535 rfl kG) ?_
    refine gg_group_h S A11 (Nat.le_of_ble_eq_true rfl) dL_law_537 (is_k ?_)
    refine gg2 (fun ws kt kf => r_icmp_ge 627 S dL_law_540 (by decide) kt kf) (fun c => absurd c (show ¬ nI (spN X1 Y1 N z p) ≤ nI i by rw [nI_leE (by omega) (by omega)]; omega)) (fun c => ?_)
    refine gg1 (fun ws kG => r_aload_n S dL_law_543 rfl 1 rfl kG) ?_
    refine gg1 (fun ws kG => r_iload S dL_law_544 5 rfl kG) ?_
    refine gg1 (fun ws kG => r_iload S dL_law_546 10 rfl kG) ?_
    refine gg1 (fun ws kG => r_iload S dL_law_548 12 rfl kG) ?_
    refine gg_splits_h S B (Nat.le_of_ble_eq_true rfl) dL_law_550 (is_k ?_)
    refine gg1 (fun ws kG => r_istore S dL_law_553 (Nat.le_of_ble_eq_true rfl) (lv' := [(13, .int (nI (ixB (szB X1 Y1 N (z + 1)) q))), (0, .ref b), (1, .ref a), (2, .ref a'), (3, .int m3), (4, .int (nI N)), (5, .int (nI z)), (6, .int (nI (grN X1 Y1 N z))), (7, .int (nI (sumB (szF X1 Y1 N z) (k + 1)))), (8, .int (nI (sumB (wtF X1 Y1 W1 N z) (k + 1)))), (9, .int (nI (sumB (spF X1 Y1 N z) (k + 1)))), (10, .int (nI k)), (11, .int (nI (sumB (sbF X1 Y1 W1 N z p) i))), (12, .int (nI i))]) rfl kG) ?_
    refine gg1 (fun ws kG => r_iload S dL_law_555 12 rfl kG) ?_
    refine gg1 (fun ws kG => r_aload_n S dL_law_557 rfl 2 rfl kG) ?_
    refine gg1 (fun ws kG => r_iload S dL_law_558 6 rfl kG) ?_
    refine gg1 (fun ws kG => r_iconst (v := (1 : Int32)) S dL_law_560 rfl kG) ?_
    refine gg1 (fun ws kG => r_iadd S dL_law_561 kG) ?_
    refine gg1 (fun ws kG => r_topI (y := (nI (z + 1))) (by rw [show nI z + (1 : Int32) = nI (z + 1) from nI_add z 1]) kG) ?_
    refine gg1 (fun ws kG => r_iload S dL_law_562 0 rfl kG) ?_
    refine gg1 (fun ws kG => r_iconst (v := (2 : Int32)) S dL_law_564 rfl kG) ?_
    refine gg_group_h S (ans_group2 hF (show z + 1 ≤ 10 by omega) q1 hdq) (Nat.le_of_ble_eq_true rfl) dL_law_565 (is_k ?_)
    refine gg1 (fun ws kG => r_iadd S dL_law_568 kG) ?_
    refine gg1 (fun ws kG => r_topI (y := (nI (sumB (sbF X1 Y1 W1 N z p) (i + 1)))) (by rw [esb]) kG) ?_
    refine gg1 (fun ws kG => r_istore S dL_law_569 (Nat.le_of_ble_eq_true rfl) (lv' := [(11, .int (nI (sumB (sbF X1 Y1 W1 N z p) (i + 1)))), (13, .int (nI (ixB (szB X1 Y1 N (z + 1)) q))), (0, .ref b), (1, .ref a), (2, .ref a'), (3, .int m3), (4, .int (nI N)), (5, .int (nI z)), (6, .int (nI (grN X1 Y1 N z))), (7, .int (nI (sumB (szF X1 Y1 N z) (k + 1)))), (8, .int (nI (sumB (wtF X1 Y1 W1 N z) (k + 1)))), (9, .int (nI (sumB (spF X1 Y1 N z) (k + 1)))), (10, .int (nI k)), (12, .int (nI i))]) rfl kG) ?_
    refine gg1 (fun ws kG => r_iconst (v := (0 : Int32)) S dL_law_571 rfl kG) ?_
    refine gg1 (fun ws kG => r_istore S dL_law_572 (Nat.le_of_ble_eq_true rfl) (lv' := [(14, .int (0 : Int32)), (11, .int (nI (sumB (sbF X1 Y1 W1 N z p) (i + 1)))), (13, .int (nI (ixB (szB X1 Y1 N (z + 1)) q))), (0, .ref b), (1, .ref a), (2, .ref a'), (3, .int m3), (4, .int (nI N)), (5, .int (nI z)), (6, .int (nI (grN X1 Y1 N z))), (7, .int (nI (sumB (szF X1 Y1 N z) (k + 1)))), (8, .int (nI (sumB (wtF X1 Y1 W1 N z) (k + 1)))), (9, .int (nI (sumB (spF X1 Y1 N z) (k + 1)))), (10, .int (nI k)), (12, .int (nI i))]) rfl kG) ?_
    refine gg1 (fun ws kG => r_lv [3, 4, 5, 6, 7, 8, 9, 10, 11, 12, 13, 1, 14, 2, 0] (lv' := [(0, .ref b), (1, .ref a), (2, .ref a'), (3, .int m3), (4, .int (nI N)), (5, .int (nI z)), (6, .int (nI (grN X1 Y1 N z))), (7, .int (nI (sumB (szF X1 Y1 N z) (k + 1)))), (8, .int (nI (sumB (wtF X1 Y1 W1 N z) (k + 1)))), (9, .int (nI (sumB (spF X1 Y1 N z) (k + 1)))), (10, .int (nI k)), (11, .int (nI (sumB (sbF X1 Y1 W1 N z p) (i + 1)))), (12, .int (nI i)), (13, .int (nI (ixB (szB X1 Y1 N (z + 1)) q))), (14, .int (nI 0))]) rfl kG) ?_
    exact w_loop9 S hXs hL hF hN hz hp hd hk q1 hdq hpq (ih (i + 1) (by omega)) _ 0 (Nat.zero_add _)
set_option maxRecDepth 100000 in
set_option maxHeartbeats 4000000 in
theorem w_maker {X : GX} {l0 : Launch} {D0 : va_G} {cI cJ cZ cY : ClassId} (S : Sx X cL_law TsL RL 15 room_1 (TYS cI cJ cZ cY) D0 l0) {b L : Nat} {xs : Nat → Int32} (hXs : Xs X b L xs) (hL : L ≤ 260) {a a' : Nat} {F N : Nat} {X1 Y1 W1 : Nat → Nat} {m3 : Int32} (hF : 5000 ≤ F) (hN : N ≤ 24) {z k p : Nat} (hz10 : z ≤ 10) (hp : p < N) (hd : hdB (szB X1 Y1 N z) p = true) (hk : ixB (szB X1 Y1 N z) p = k) (hr : ∀ z, rad z * rad z ≤ 1048576) (k10 : GW X cI cJ cZ cY a a' 424 [(0, .ref b), (1, .ref a), (2, .ref a'), (3, .int m3), (4, .int (nI N)), (5, .int (nI z)), (6, .int (nI (grN X1 Y1 N z))), (7, .int (nI (sumB (szF X1 Y1 N z) (k + 1)))), (8, .int (nI (sumB (wtF X1 Y1 W1 N z) (k + 1)))), (9, .int (nI (sumB (spF X1 Y1 N z) (k + 1)))), (10, .int (nI (k + 1)))] [] (N, X1, Y1, W1) (N, X1, Y1, W1)) : GW X cI cJ cZ cY a a' 672 [(0, .ref b), (1, .ref a), (2, .ref a'), (3, .int m3), (4, .int (nI N)), (5, .int (nI z)), (6, .int (nI (grN X1 Y1 N z))), (7, .int (nI (sumB (szF X1 Y1 N z) (k + 1)))), (8, .int (nI (sumB (wtF X1 Y1 W1 N z) (k + 1)))), (9, .int (nI (sumB (spF X1 Y1 N z) (k + 1)))), (10, .int (nI k))] [] (N, X1, Y1, W1) (N, X1, Y1, W1) := by
  have m24 := cntB_le (szB X1 Y1 N z p).testBit 24
  have A10 := ans_group10 (F := F) (W := W1) hF hz10 hp hd
  have A1 := ans_group1 (F := F) (W := W1) hF hz10 hp hd
  rw [hk] at A10 A1
  rcases m_maker (X := X1) (Y := Y1) (z := z) hN hp with ⟨m0, m1⟩ | ⟨j, j1, m0, m1, m4, m5⟩
  · rw [m0] at A10
    replace A10 : Ans_group F (N, X1, Y1, W1) (nI z) (nI k) 10 (IS (-1 : Int32) (N, X1, Y1, W1)) := A10
    refine gg1 (fun ws kG => r_aload_n S dL_law_672 rfl 1 rfl kG) ?_
    refine gg1 (fun ws kG => r_iload S dL_law_673 5 rfl kG) ?_
    refine gg1 (fun ws kG => r_iload S dL_law_675 10 rfl kG) ?_
    refine gg1 (fun ws kG => r_bipush (v := (10 : Int32)) S dL_law_677 rfl kG) ?_
    refine gg_group_h S A10 (Nat.le_of_ble_eq_true rfl) dL_law_679 (is_k ?_)
    refine gg1 (fun ws kG => r_istore S dL_law_682 (Nat.le_of_ble_eq_true rfl) (lv' := [(12, .int (-1 : Int32)), (0, .ref b), (1, .ref a), (2, .ref a'), (3, .int m3), (4, .int (nI N)), (5, .int (nI z)), (6, .int (nI (grN X1 Y1 N z))), (7, .int (nI (sumB (szF X1 Y1 N z) (k + 1)))), (8, .int (nI (sumB (wtF X1 Y1 W1 N z) (k + 1)))), (9, .int (nI (sumB (spF X1 Y1 N z) (k + 1)))), (10, .int (nI k))]) rfl kG) ?_
    refine gg1 (fun ws kG => r_iload S dL_law_684 0 rfl kG) ?_
    refine gg1 (fun ws kG => r_iconst (v := (-1 : Int32)) S dL_law_686 rfl kG) ?_
    refine gg2 (fun ws kt kf => r_icmp_ne 694 S dL_law_687 (by decide) kt kf) (fun c => absurd rfl c) (fun c => ?_)
    refine gg1 (fun ws kG => r_iconst (v := (1 : Int32)) S dL_law_690 rfl kG) ?_
    refine gg1 (fun ws kG => r_goto 695 S dL_law_691 (by decide) kG) ?_
    refine gg1 (fun ws kG => r_aload_n S dL_law_695 rfl 2 rfl kG) ?_
    refine gg1 (fun ws kG => r_iload S dL_law_696 6 rfl kG) ?_
    refine gg1 (fun ws kG => r_iload S dL_law_698 11 rfl kG) ?_
    refine gg1 (fun ws kG => r_iconst (v := (1 : Int32)) S dL_law_700 rfl kG) ?_
    refine gg_group_h S A1 (Nat.le_of_ble_eq_true rfl) dL_law_701 (is_k ?_)
    refine gg1 (fun ws kG => r_iconst (v := (1 : Int32)) S dL_law_704 rfl kG) ?_
    refine gg2 (fun ws kt kf => r_icmp_ne 712 S dL_law_705 (by decide) kt kf) (fun c => absurd (show nI (cntB (szB X1 Y1 N z p).testBit 24) = 1 by rw [m1]; rfl) c) (fun c => ?_)
    refine gg1 (fun ws kG => r_iconst (v := (1 : Int32)) S dL_law_708 rfl kG) ?_
    refine gg1 (fun ws kG => r_goto 713 S dL_law_709 (by decide) kG) ?_
    refine gg2 (fun ws kt kf => r_icmp_ne 763 S dL_law_713 (by decide) kt kf) (fun c => absurd rfl c) (fun c => ?_)
    refine gg1 (fun ws kG => r_iload S dL_law_716 0 rfl kG) ?_
    refine gg2 (fun ws kt kf => r_if_lt 765 S dL_law_718 (by decide) kt kf) (fun c => ?_) (fun c => absurd (show (-1 : Int32) < 0 by rw [m1_lt0]; trivial) c)
    refine gg1 (fun ws kG => r_iincc S dL_law_765 11 rfl (c0 := (1 : Int32)) rfl (nI_add k 1) (Nat.le_of_ble_eq_true rfl) (lv' := [(10, .int (nI (k + 1))), (12, .int (-1 : Int32)), (0, .ref b), (1, .ref a), (2, .ref a'), (3, .int m3), (4, .int (nI N)), (5, .int (nI z)), (6, .int (nI (grN X1 Y1 N z))), (7, .int (nI (sumB (szF X1 Y1 N z) (k + 1)))), (8, .int (nI (sumB (wtF X1 Y1 W1 N z) (k + 1)))), (9, .int (nI (sumB (spF X1 Y1 N z) (k + 1))))]) rfl kG) ?_
    refine gg1 (fun ws kG => r_goto 424 S dL_law_768 (by decide) kG) ?_
    refine gg1 (fun ws kG => r_lv [2, 3, 4, 5, 6, 7, 8, 9, 10, 11, 0] (lv' := [(0, .ref b), (1, .ref a), (2, .ref a'), (3, .int m3), (4, .int (nI N)), (5, .int (nI z)), (6, .int (nI (grN X1 Y1 N z))), (7, .int (nI (sumB (szF X1 Y1 N z) (k + 1)))), (8, .int (nI (sumB (wtF X1 Y1 W1 N z) (k + 1)))), (9, .int (nI (sumB (spF X1 Y1 N z) (k + 1)))), (10, .int (nI (k + 1)))]) rfl kG) ?_
    exact k10
  · rw [m0] at A10
    replace A10 : Ans_group F (N, X1, Y1, W1) (nI z) (nI k) 10 (IS (nI j) (N, X1, Y1, W1)) := A10
    have r2 := hr z
    have J3 := ans_join (F := F) (X := X1) (Y := Y1) (W := W1) (w := 3) hF j1 (by omega)
    have J0 := ans_join (F := F) (X := X1) (Y := Y1) (W := W1) (w := 0) hF j1 (by omega)
    have e3 : jnV X1 Y1 W1 N j 3 = nI (cntB (szB X1 Y1 N z p).testBit 24) := by
      show nI (cntB (pmB (fP (KK X1 Y1 N)) (fQ (KK X1 Y1 N)) j).testBit 24) = _
      rw [m4]
    rw [e3] at J3
    replace J3 : Ans_join F (N, X1, Y1, W1) (nI j) (3 : Int32) (IS (nI (cntB (szB X1 Y1 N z p).testBit 24)) (N, X1, Y1, W1)) := J3
    replace J0 : Ans_join F (N, X1, Y1, W1) (nI j) (0 : Int32) (IS (nI (AA X1 Y1 N j)) (N, X1, Y1, W1)) := J0
    refine gg1 (fun ws kG => r_aload_n S dL_law_672 rfl 1 rfl kG) ?_
    refine gg1 (fun ws kG => r_iload S dL_law_673 5 rfl kG) ?_
    refine gg1 (fun ws kG => r_iload S dL_law_675 10 rfl kG) ?_
    refine gg1 (fun ws kG => r_bipush (v := (10 : Int32)) S dL_law_677 rfl kG) ?_
    refine gg_group_h S A10 (Nat.le_of_ble_eq_true rfl) dL_law_679 (is_k ?_)
    refine gg1 (fun ws kG => r_istore S dL_law_682 (Nat.le_of_ble_eq_true rfl) (lv' := [(12, .int (nI j)), (0, .ref b), (1, .ref a), (2, .ref a'), (3, .int m3), (4, .int (nI N)), (5, .int (nI z)), (6, .int (nI (grN X1 Y1 N z))), (7, .int (nI (sumB (szF X1 Y1 N z) (k + 1)))), (8, .int (nI (sumB (wtF X1 Y1 W1 N z) (k + 1)))), (9, .int (nI (sumB (spF X1 Y1 N z) (k + 1)))), (10, .int (nI k))]) rfl kG) ?_
    refine gg1 (fun ws kG => r_iload S dL_law_684 0 rfl kG) ?_
    refine gg1 (fun ws kG => r_iconst (v := (-1 : Int32)) S dL_law_686 rfl kG) ?_
    refine gg2 (fun ws kt kf => r_icmp_ne 694 S dL_law_687 (by decide) kt kf) (fun c => ?_) (fun c => absurd c (show ¬ nI j = -1 by rw [nI_m1 (by omega)]; exact id))
    refine gg1 (fun ws kG => r_iconst (v := (0 : Int32)) S dL_law_694 rfl kG) ?_
    refine gg1 (fun ws kG => r_aload_n S dL_law_695 rfl 2 rfl kG) ?_
    refine gg1 (fun ws kG => r_iload S dL_law_696 6 rfl kG) ?_
    refine gg1 (fun ws kG => r_iload S dL_law_698 11 rfl kG) ?_
    refine gg1 (fun ws kG => r_iconst (v := (1 : Int32)) S dL_law_700 rfl kG) ?_
    refine gg_group_h S A1 (Nat.le_of_ble_eq_true rfl) dL_law_701 (is_k ?_)
    refine gg1 (fun ws kG => r_iconst (v := (1 : Int32)) S dL_law_704 rfl kG) ?_
    refine gg2 (fun ws kt kf => r_icmp_ne 712 S dL_law_705 (by decide) kt kf) (fun c => ?_) (fun c => absurd c (show ¬ nI (cntB (szB X1 Y1 N z p).testBit 24) = 1 by rw [c1, nI_eqE (by omega) (by omega)]; omega))
    refine gg1 (fun ws kG => r_iconst (v := (0 : Int32)) S dL_law_712 rfl kG) ?_
    refine gg2 (fun ws kt kf => r_icmp_ne 763 S dL_law_713 (by decide) kt kf) (fun c => absurd rfl c) (fun c => ?_)
    refine gg1 (fun ws kG => r_iload S dL_law_716 0 rfl kG) ?_
    refine gg2 (fun ws kt kf => r_if_lt 765 S dL_law_718 (by decide) kt kf) (fun c => absurd c (show ¬ nI j < 0 by rw [nI_lt0 (by omega)]; exact id)) (fun c => ?_)
    refine gg1 (fun ws kG => r_aload_n S dL_law_721 rfl 2 rfl kG) ?_
    refine gg1 (fun ws kG => r_iload S dL_law_722 0 rfl kG) ?_
    refine gg1 (fun ws kG => r_iconst (v := (3 : Int32)) S dL_law_724 rfl kG) ?_
    refine gg_join_h S J3 (Nat.le_of_ble_eq_true rfl) dL_law_725 (is_k ?_)
    refine gg1 (fun ws kG => r_aload_n S dL_law_728 rfl 2 rfl kG) ?_
    refine gg1 (fun ws kG => r_iload S dL_law_729 6 rfl kG) ?_
    refine gg1 (fun ws kG => r_iload S dL_law_731 11 rfl kG) ?_
    refine gg1 (fun ws kG => r_iconst (v := (1 : Int32)) S dL_law_733 rfl kG) ?_
    refine gg_group_h S A1 (Nat.le_of_ble_eq_true rfl) dL_law_734 (is_k ?_)
    refine gg2 (fun ws kt kf => r_icmp_ne 763 S dL_law_737 (by decide) kt kf) (fun c => absurd rfl c) (fun c => ?_)
    refine gg1 (fun ws kG => r_aload_n S dL_law_740 rfl 2 rfl kG) ?_
    refine gg1 (fun ws kG => r_iload S dL_law_741 0 rfl kG) ?_
    refine gg1 (fun ws kG => r_iconst (v := (0 : Int32)) S dL_law_743 rfl kG) ?_
    refine gg_join_h S J0 (Nat.le_of_ble_eq_true rfl) dL_law_744 (is_k ?_)
    refine gg1 (fun ws kG => r_sipush (v := (1024 : Int32)) S dL_law_747 rfl kG) ?_
    refine gg1 (fun ws kG => r_iload S dL_law_750 6 rfl kG) ?_
    refine gg1 (fun ws kG => r_ishr S dL_law_752 kG) ?_
    refine gg1 (fun ws kG => r_topI (y := (nI (rad z))) (by rw [radI hz10]) kG) ?_
    refine gg1 (fun ws kG => r_sipush (v := (1024 : Int32)) S dL_law_753 rfl kG) ?_
    refine gg1 (fun ws kG => r_iload S dL_law_756 6 rfl kG) ?_
    refine gg1 (fun ws kG => r_ishr S dL_law_758 kG) ?_
    refine gg1 (fun ws kG => r_topI (y := (nI (rad z))) (by rw [radI hz10]) kG) ?_
    refine gg1 (fun ws kG => r_imul S dL_law_759 kG) ?_
    refine gg1 (fun ws kG => r_topI (y := (nI (rad z * rad z))) (by rw [pk_mul]) kG) ?_
    refine gg2 (fun ws kt kf => r_icmp_le 765 S dL_law_760 (by decide) kt kf) (fun c => ?_) (fun c => absurd (show nI (AA X1 Y1 N j) ≤ nI (rad z * rad z) by rw [nI_leE (by omega) (by omega)]; exact m5) c)
    refine gg1 (fun ws kG => r_iincc S dL_law_765 11 rfl (c0 := (1 : Int32)) rfl (nI_add k 1) (Nat.le_of_ble_eq_true rfl) (lv' := [(10, .int (nI (k + 1))), (12, .int (nI j)), (0, .ref b), (1, .ref a), (2, .ref a'), (3, .int m3), (4, .int (nI N)), (5, .int (nI z)), (6, .int (nI (grN X1 Y1 N z))), (7, .int (nI (sumB (szF X1 Y1 N z) (k + 1)))), (8, .int (nI (sumB (wtF X1 Y1 W1 N z) (k + 1)))), (9, .int (nI (sumB (spF X1 Y1 N z) (k + 1))))]) rfl kG) ?_
    refine gg1 (fun ws kG => r_goto 424 S dL_law_768 (by decide) kG) ?_
    refine gg1 (fun ws kG => r_lv [2, 3, 4, 5, 6, 7, 8, 9, 10, 11, 0] (lv' := [(0, .ref b), (1, .ref a), (2, .ref a'), (3, .int m3), (4, .int (nI N)), (5, .int (nI z)), (6, .int (nI (grN X1 Y1 N z))), (7, .int (nI (sumB (szF X1 Y1 N z) (k + 1)))), (8, .int (nI (sumB (wtF X1 Y1 W1 N z) (k + 1)))), (9, .int (nI (sumB (spF X1 Y1 N z) (k + 1)))), (10, .int (nI (k + 1)))]) rfl kG) ?_
    exact k10
set_option maxRecDepth 100000 in
set_option maxHeartbeats 4000000 in
theorem w_loop7 {X : GX} {l0 : Launch} {D0 : va_G} {cI cJ cZ cY : ClassId} (S : Sx X cL_law TsL RL 15 room_1 (TYS cI cJ cZ cY) D0 l0) {b L : Nat} {xs : Nat → Int32} (hXs : Xs X b L xs) (hL : L ≤ 260) {a a' : Nat} {F N : Nat} {X1 Y1 W1 : Nat → Nat} {m3 : Int32} (hF : 5000 ≤ F) (hN : N ≤ 24) {z : Nat} (hz : z ≤ 10) (k7 : GW X cI cJ cZ cY a a' 771 [(0, .ref b), (1, .ref a), (2, .ref a'), (3, .int m3), (4, .int (nI N)), (5, .int (nI z)), (6, .int (nI (grN X1 Y1 N z))), (7, .int (nI (sumB (szF X1 Y1 N z) (grN X1 Y1 N z)))), (8, .int (nI (sumB (wtF X1 Y1 W1 N z) (grN X1 Y1 N z)))), (9, .int (nI (sumB (spF X1 Y1 N z) (grN X1 Y1 N z)))), (10, .int (nI (grN X1 Y1 N z)))] [] (N, X1, Y1, W1) (N, X1, Y1, W1)) : ∀ (d k : Nat), k + d = grN X1 Y1 N z → GW X cI cJ cZ cY a a' 424 [(0, .ref b), (1, .ref a), (2, .ref a'), (3, .int m3), (4, .int (nI N)), (5, .int (nI z)), (6, .int (nI (grN X1 Y1 N z))), (7, .int (nI (sumB (szF X1 Y1 N z) k))), (8, .int (nI (sumB (wtF X1 Y1 W1 N z) k))), (9, .int (nI (sumB (spF X1 Y1 N z) k))), (10, .int (nI k))] [] (N, X1, Y1, W1) (N, X1, Y1, W1) := by
  have g24 := gr_le (X := X1) (Y := Y1) (N := N) (z := z)
  intro d
  induction d with
  | zero =>
    intro k hk
    have e : k = grN X1 Y1 N z := by omega
    rw [e]
    refine gg1 (fun ws kG => r_iload S dL_law_424 10 rfl kG) ?_
    refine gg1 (fun ws kG => r_iload S dL_law_426 6 rfl kG) ?_
    refine gg2 (fun ws kt kf => r_icmp_ge 771 S dL_law_428 (by decide) kt kf) (fun c => ?_) (fun c => absurd (show nI (grN X1 Y1 N z) ≤ nI (grN X1 Y1 N z) from Int32.le_refl _) c)
    exact k7
  | succ d ih =>
    intro k hk0
    obtain ⟨p, hp, hd, hk, hnp⟩ := head_k (s := szB X1 Y1 N z) (N := N) (k := k) (show k < grN X1 Y1 N z by omega)
    have A1 := ans_group1 (F := F) (W := W1) hF hz hp hd
    have A2 := ans_group2 (F := F) (W := W1) hF hz hp hd
    rw [hk] at A1 A2
    have e7 : nI (sumB (szF X1 Y1 N z) k) + nI (cntB (szB X1 Y1 N z p).testBit 24) = nI (sumB (szF X1 Y1 N z) (k + 1)) := by
      rw [nI_add, show cntB (szB X1 Y1 N z p).testBit 24 = szF X1 Y1 N z k by unfold szF; rw [hnp]]
      rfl
    have e8 : nI (sumB (wtF X1 Y1 W1 N z) k) + nI (wtB W1 (szB X1 Y1 N z p) N) = nI (sumB (wtF X1 Y1 W1 N z) (k + 1)) := by
      rw [nI_add, show wtB W1 (szB X1 Y1 N z p) N = wtF X1 Y1 W1 N z k by unfold wtF; rw [hnp]]
      rfl
    refine gg1 (fun ws kG => r_iload S dL_law_424 10 rfl kG) ?_
    refine gg1 (fun ws kG => r_iload S dL_law_426 6 rfl kG) ?_
    refine gg2 (fun ws kt kf => r_icmp_ge 771 S dL_law_428 (by decide) kt kf) (fun c => absurd c (show ¬ nI (grN X1 Y1 N z) ≤ nI k by rw [nI_leE (by omega) (by omega)]; omega)) (fun c => ?_)
    have tail : GW X cI cJ cZ cY a a' 461 [(0, .ref b), (1, .ref a), (2, .ref a'), (3, .int m3), (4, .int (nI N)), (5, .int (nI z)), (6, .int (nI (grN X1 Y1 N z))), (7, .int (nI (sumB (szF X1 Y1 N z) k))), (8, .int (nI (sumB (wtF X1 Y1 W1 N z) k))), (9, .int (nI (sumB (spF X1 Y1 N z) k))), (10, .int (nI k))] [] (N, X1, Y1, W1) (N, X1, Y1, W1) := by
      refine gg1 (fun ws kG => r_iload S dL_law_461 7 rfl kG) ?_
      refine gg1 (fun ws kG => r_aload_n S dL_law_463 rfl 1 rfl kG) ?_
      refine gg1 (fun ws kG => r_iload S dL_law_464 5 rfl kG) ?_
      refine gg1 (fun ws kG => r_iload S dL_law_466 10 rfl kG) ?_
      refine gg1 (fun ws kG => r_iconst (v := (1 : Int32)) S dL_law_468 rfl kG) ?_
      refine gg_group_h S A1 (Nat.le_of_ble_eq_true rfl) dL_law_469 (is_k ?_)
      refine gg1 (fun ws kG => r_iadd S dL_law_472 kG) ?_
      refine gg1 (fun ws kG => r_topI (y := (nI (sumB (szF X1 Y1 N z) (k + 1)))) (by rw [e7]) kG) ?_
      refine gg1 (fun ws kG => r_istore S dL_law_473 (Nat.le_of_ble_eq_true rfl) (lv' := [(7, .int (nI (sumB (szF X1 Y1 N z) (k + 1)))), (0, .ref b), (1, .ref a), (2, .ref a'), (3, .int m3), (4, .int (nI N)), (5, .int (nI z)), (6, .int (nI (grN X1 Y1 N z))), (8, .int (nI (sumB (wtF X1 Y1 W1 N z) k))), (9, .int (nI (sumB (spF X1 Y1 N z) k))), (10, .int (nI k))]) rfl kG) ?_
      refine gg1 (fun ws kG => r_iload S dL_law_475 8 rfl kG) ?_
      refine gg1 (fun ws kG => r_aload_n S dL_law_477 rfl 2 rfl kG) ?_
      refine gg1 (fun ws kG => r_iload S dL_law_478 6 rfl kG) ?_
      refine gg1 (fun ws kG => r_iload S dL_law_480 10 rfl kG) ?_
      refine gg1 (fun ws kG => r_iconst (v := (2 : Int32)) S dL_law_482 rfl kG) ?_
      refine gg_group_h S A2 (Nat.le_of_ble_eq_true rfl) dL_law_483 (is_k ?_)
      refine gg1 (fun ws kG => r_iadd S dL_law_486 kG) ?_
      refine gg1 (fun ws kG => r_topI (y := (nI (sumB (wtF X1 Y1 W1 N z) (k + 1)))) (by rw [e8]) kG) ?_
      refine gg1 (fun ws kG => r_istore S dL_law_487 (Nat.le_of_ble_eq_true rfl) (lv' := [(8, .int (nI (sumB (wtF X1 Y1 W1 N z) (k + 1)))), (7, .int (nI (sumB (szF X1 Y1 N z) (k + 1)))), (0, .ref b), (1, .ref a), (2, .ref a'), (3, .int m3), (4, .int (nI N)), (5, .int (nI z)), (6, .int (nI (grN X1 Y1 N z))), (9, .int (nI (sumB (spF X1 Y1 N z) k))), (10, .int (nI k))]) rfl kG) ?_
      refine gg1 (fun ws kG => r_iload S dL_law_489 9 rfl kG) ?_
      refine gg1 (fun ws kG => r_iload S dL_law_491 7 rfl kG) ?_
      refine gg1 (fun ws kG => r_bipush (v := (10 : Int32)) S dL_law_493 rfl kG) ?_
      by_cases c10z : z < 10
      · have A11 := ans_group11 (F := F) (W := W1) hF c10z hp hd
        rw [hk] at A11
        have e9 : nI (sumB (spF X1 Y1 N z) k) + nI (spN X1 Y1 N z p) = nI (sumB (spF X1 Y1 N z) (k + 1)) := by
          rw [nI_add, show spN X1 Y1 N z p = spF X1 Y1 N z k by unfold spF; rw [if_pos c10z, hnp]]
          rfl
        refine gg2 (fun ws kt kf => r_icmp_ge 511 S dL_law_495 (by decide) kt kf) (fun c => absurd c (show ¬ (10 : Int32) ≤ nI z by rw [c10, nI_leE (by omega) (by omega)]; omega)) (fun c => ?_)
        refine gg1 (fun ws kG => r_aload_n S dL_law_498 rfl 3 rfl kG) ?_
        refine gg1 (fun ws kG => r_iload S dL_law_499 7 rfl kG) ?_
        refine gg1 (fun ws kG => r_iload S dL_law_501 10 rfl kG) ?_
        refine gg1 (fun ws kG => r_bipush (v := (11 : Int32)) S dL_law_503 rfl kG) ?_
        refine gg_group_h S A11 (Nat.le_of_ble_eq_true rfl) dL_law_505 (is_k ?_)
        refine gg1 (fun ws kG => r_goto 512 S dL_law_508 (by decide) kG) ?_
        refine gg1 (fun ws kG => r_iadd S dL_law_512 kG) ?_
        refine gg1 (fun ws kG => r_topI (y := (nI (sumB (spF X1 Y1 N z) (k + 1)))) (by rw [e9]) kG) ?_
        refine gg1 (fun ws kG => r_istore S dL_law_513 (Nat.le_of_ble_eq_true rfl) (lv' := [(9, .int (nI (sumB (spF X1 Y1 N z) (k + 1)))), (8, .int (nI (sumB (wtF X1 Y1 W1 N z) (k + 1)))), (7, .int (nI (sumB (szF X1 Y1 N z) (k + 1)))), (0, .ref b), (1, .ref a), (2, .ref a'), (3, .int m3), (4, .int (nI N)), (5, .int (nI z)), (6, .int (nI (grN X1 Y1 N z))), (10, .int (nI k))]) rfl kG) ?_
        refine gg1 (fun ws kG => r_iconst (v := (0 : Int32)) S dL_law_515 rfl kG) ?_
        refine gg1 (fun ws kG => r_istore S dL_law_516 (Nat.le_of_ble_eq_true rfl) (lv' := [(11, .int (0 : Int32)), (9, .int (nI (sumB (spF X1 Y1 N z) (k + 1)))), (8, .int (nI (sumB (wtF X1 Y1 W1 N z) (k + 1)))), (7, .int (nI (sumB (szF X1 Y1 N z) (k + 1)))), (0, .ref b), (1, .ref a), (2, .ref a'), (3, .int m3), (4, .int (nI N)), (5, .int (nI z)), (6, .int (nI (grN X1 Y1 N z))), (10, .int (nI k))]) rfl kG) ?_
        refine gg1 (fun ws kG => r_iconst (v := (0 : Int32)) S dL_law_518 rfl kG) ?_
        refine gg1 (fun ws kG => r_istore S dL_law_519 (Nat.le_of_ble_eq_true rfl) (lv' := [(12, .int (0 : Int32)), (11, .int (0 : Int32)), (9, .int (nI (sumB (spF X1 Y1 N z) (k + 1)))), (8, .int (nI (sumB (wtF X1 Y1 W1 N z) (k + 1)))), (7, .int (nI (sumB (szF X1 Y1 N z) (k + 1)))), (0, .ref b), (1, .ref a), (2, .ref a'), (3, .int m3), (4, .int (nI N)), (5, .int (nI z)), (6, .int (nI (grN X1 Y1 N z))), (10, .int (nI k))]) rfl kG) ?_
        refine gg1 (fun ws kG => r_lv [5, 6, 7, 8, 9, 10, 11, 4, 3, 2, 12, 1, 0] (lv' := [(0, .ref b), (1, .ref a), (2, .ref a'), (3, .int m3), (4, .int (nI N)), (5, .int (nI z)), (6, .int (nI (grN X1 Y1 N z))), (7, .int (nI (sumB (szF X1 Y1 N z) (k + 1)))), (8, .int (nI (sumB (wtF X1 Y1 W1 N z) (k + 1)))), (9, .int (nI (sumB (spF X1 Y1 N z) (k + 1)))), (10, .int (nI k)), (11, .int (nI (sumB (sbF X1 Y1 W1 N z p) 0))), (12, .int (nI 0))]) rfl kG) ?_
        refine w_loop8 S hXs hL hF hN c10z hp hd hk ?_ _ 0 (Nat.zero_add _)
        refine gg1 (fun ws kG => r_iload S dL_law_627 5 rfl kG) ?_
        refine gg1 (fun ws kG => r_bipush (v := (10 : Int32)) S dL_law_629 rfl kG) ?_
        refine gg2 (fun ws kt kf => r_icmp_ge 672 S dL_law_631 (by decide) kt kf) (fun c => absurd c (show ¬ (10 : Int32) ≤ nI z by rw [c10, nI_leE (by omega) (by omega)]; omega)) (fun c => ?_)
        refine gg1 (fun ws kG => r_iload S dL_law_634 11 rfl kG) ?_
        refine gg1 (fun ws kG => r_aload_n S dL_law_636 rfl 1 rfl kG) ?_
        refine gg1 (fun ws kG => r_iload S dL_law_637 5 rfl kG) ?_
        refine gg1 (fun ws kG => r_iload S dL_law_639 10 rfl kG) ?_
        refine gg1 (fun ws kG => r_iconst (v := (2 : Int32)) S dL_law_641 rfl kG) ?_
        refine gg_group_h S A2 (Nat.le_of_ble_eq_true rfl) dL_law_642 (is_k ?_)
        refine gg2 (fun ws kt kf => r_icmp_ne 670 S dL_law_645 (by decide) kt kf) (fun c => absurd (show nI (sumB (sbF X1 Y1 W1 N z p) (spN X1 Y1 N z p)) = nI (wtB W1 (szB X1 Y1 N z p) N) by rw [sum_sb hN hp]) c) (fun c => ?_)
        refine gg1 (fun ws kG => r_aload_n S dL_law_648 rfl 1 rfl kG) ?_
        refine gg1 (fun ws kG => r_iload S dL_law_649 5 rfl kG) ?_
        refine gg1 (fun ws kG => r_iload S dL_law_651 10 rfl kG) ?_
        refine gg1 (fun ws kG => r_aload_n S dL_law_653 rfl 1 rfl kG) ?_
        refine gg1 (fun ws kG => r_iload S dL_law_654 5 rfl kG) ?_
        refine gg1 (fun ws kG => r_iload S dL_law_656 10 rfl kG) ?_
        refine gg1 (fun ws kG => r_bipush (v := (11 : Int32)) S dL_law_658 rfl kG) ?_
        refine gg_group_h S A11 (Nat.le_of_ble_eq_true rfl) dL_law_660 (is_k ?_)
        have B := ans_splits (F := F) (W := W1) hF c10z hp hd (nI (spN X1 Y1 N z p))
        unfold spN at B
        rw [m_none hN, hk] at B
        replace B : Ans_splits F (N, X1, Y1, W1) (nI z) (nI k) (nI (spN X1 Y1 N z p)) (IS (-1 : Int32) (N, X1, Y1, W1)) := B
        refine gg_splits_h S B (Nat.le_of_ble_eq_true rfl) dL_law_663 (is_k ?_)
        refine gg1 (fun ws kG => r_iconst (v := (-1 : Int32)) S dL_law_666 rfl kG) ?_
        refine gg2 (fun ws kt kf => r_icmp_eq 672 S dL_law_667 (by decide) kt kf) (fun c => ?_) (fun c => absurd rfl c)
        refine gg1 (fun ws kG => r_lv [0, 1, 2, 3, 4, 5, 6, 7, 8, 9, 10] (lv' := [(0, .ref b), (1, .ref a), (2, .ref a'), (3, .int m3), (4, .int (nI N)), (5, .int (nI z)), (6, .int (nI (grN X1 Y1 N z))), (7, .int (nI (sumB (szF X1 Y1 N z) (k + 1)))), (8, .int (nI (sumB (wtF X1 Y1 W1 N z) (k + 1)))), (9, .int (nI (sumB (spF X1 Y1 N z) (k + 1)))), (10, .int (nI k))]) rfl kG) ?_
        exact w_maker S hXs hL hF hN hz hp hd hk rad_sq (ih (k + 1) (by omega))
      · have e9 : nI (sumB (spF X1 Y1 N z) k) + (0 : Int32) = nI (sumB (spF X1 Y1 N z) (k + 1)) := by
          rw [c0, nI_add, show sumB (spF X1 Y1 N z) k + 0 = sumB (spF X1 Y1 N z) k + spF X1 Y1 N z k by unfold spF; rw [if_neg c10z]]
          rfl
        refine gg2 (fun ws kt kf => r_icmp_ge 511 S dL_law_495 (by decide) kt kf) (fun c => ?_) (fun c => absurd (show (10 : Int32) ≤ nI z by rw [c10, nI_leE (by omega) (by omega)]; omega) c)
        refine gg1 (fun ws kG => r_iconst (v := (0 : Int32)) S dL_law_511 rfl kG) ?_
        refine gg1 (fun ws kG => r_iadd S dL_law_512 kG) ?_
        refine gg1 (fun ws kG => r_topI (y := (nI (sumB (spF X1 Y1 N z) (k + 1)))) (by rw [e9]) kG) ?_
        refine gg1 (fun ws kG => r_istore S dL_law_513 (Nat.le_of_ble_eq_true rfl) (lv' := [(9, .int (nI (sumB (spF X1 Y1 N z) (k + 1)))), (8, .int (nI (sumB (wtF X1 Y1 W1 N z) (k + 1)))), (7, .int (nI (sumB (szF X1 Y1 N z) (k + 1)))), (0, .ref b), (1, .ref a), (2, .ref a'), (3, .int m3), (4, .int (nI N)), (5, .int (nI z)), (6, .int (nI (grN X1 Y1 N z))), (10, .int (nI k))]) rfl kG) ?_
        refine gg1 (fun ws kG => r_iconst (v := (0 : Int32)) S dL_law_515 rfl kG) ?_
        refine gg1 (fun ws kG => r_istore S dL_law_516 (Nat.le_of_ble_eq_true rfl) (lv' := [(11, .int (0 : Int32)), (9, .int (nI (sumB (spF X1 Y1 N z) (k + 1)))), (8, .int (nI (sumB (wtF X1 Y1 W1 N z) (k + 1)))), (7, .int (nI (sumB (szF X1 Y1 N z) (k + 1)))), (0, .ref b), (1, .ref a), (2, .ref a'), (3, .int m3), (4, .int (nI N)), (5, .int (nI z)), (6, .int (nI (grN X1 Y1 N z))), (10, .int (nI k))]) rfl kG) ?_
        refine gg1 (fun ws kG => r_iconst (v := (0 : Int32)) S dL_law_518 rfl kG) ?_
        refine gg1 (fun ws kG => r_istore S dL_law_519 (Nat.le_of_ble_eq_true rfl) (lv' := [(12, .int (0 : Int32)), (11, .int (0 : Int32)), (9, .int (nI (sumB (spF X1 Y1 N z) (k + 1)))), (8, .int (nI (sumB (wtF X1 Y1 W1 N z) (k + 1)))), (7, .int (nI (sumB (szF X1 Y1 N z) (k + 1)))), (0, .ref b), (1, .ref a), (2, .ref a'), (3, .int m3), (4, .int (nI N)), (5, .int (nI z)), (6, .int (nI (grN X1 Y1 N z))), (10, .int (nI k))]) rfl kG) ?_
        refine gg1 (fun ws kG => r_iload S dL_law_521 10 rfl kG) ?_
        refine gg1 (fun ws kG => r_bipush (v := (10 : Int32)) S dL_law_523 rfl kG) ?_
        refine gg2 (fun ws kt kf => r_icmp_ge 627 S dL_law_525 (by decide) kt kf) (fun c => ?_) (fun c => absurd (show (10 : Int32) ≤ nI z by rw [c10, nI_leE (by omega) (by omega)]; omega) c)
        refine gg1 (fun ws kG => r_iload S dL_law_627 10 rfl kG) ?_
        refine gg1 (fun ws kG => r_bipush (v := (10 : Int32)) S dL_law_629 rfl kG) ?_
        refine gg2 (fun ws kt kf => r_icmp_ge 672 S dL_law_631 (by decide) kt kf) (fun c => ?_) (fun c => absurd (show (10 : Int32) ≤ nI z by rw [c10, nI_leE (by omega) (by omega)]; omega) c)
        refine gg1 (fun ws kG => r_lv [5, 6, 7, 8, 9, 10, 11, 4, 3, 2, 12] (lv' := [(0, .ref b), (1, .ref a), (2, .ref a'), (3, .int m3), (4, .int (nI N)), (5, .int (nI z)), (6, .int (nI (grN X1 Y1 N z))), (7, .int (nI (sumB (szF X1 Y1 N z) (k + 1)))), (8, .int (nI (sumB (wtF X1 Y1 W1 N z) (k + 1)))), (9, .int (nI (sumB (spF X1 Y1 N z) (k + 1)))), (10, .int (nI k))]) rfl kG) ?_
        exact w_maker S hXs hL hF hN hz hp hd hk rad_sq (ih (k + 1) (by omega))
    refine gg1 (fun ws kG => r_iload S dL_law_431 10 rfl kG) ?_
    refine gg2 (fun ws kt kf => r_if_le 461 S dL_law_433 (by decide) kt kf) (fun c => ?_) (fun c => ?_)
    · exact tail
    · have k0 : k ≠ 0 := fun q => c (by rw [q]; exact Int32.le_refl _)
      obtain ⟨p2, hp2, hd2, hk2, _⟩ := head_k (s := szB X1 Y1 N z) (N := N) (k := k - 1) (show k - 1 < grN X1 Y1 N z by omega)
      have A0 := ans_group0 (F := F) (W := W1) hF hz hp hd
      rw [hk] at A0
      have B0 := ans_group0 (F := F) (W := W1) hF hz hp2 hd2
      rw [hk2] at B0
      have hlt : p2 < p := Nat.not_le.mp (fun q => by have := ix_mono (s := szB X1 Y1 N z) q; omega)
      refine gg1 (fun ws kG => r_aload_n S dL_law_436 rfl 1 rfl kG) ?_
      refine gg1 (fun ws kG => r_iload S dL_law_437 5 rfl kG) ?_
      refine gg1 (fun ws kG => r_iload S dL_law_439 10 rfl kG) ?_
      refine gg1 (fun ws kG => r_iconst (v := (0 : Int32)) S dL_law_441 rfl kG) ?_
      refine gg_group_h S A0 (Nat.le_of_ble_eq_true rfl) dL_law_442 (is_k ?_)
      refine gg1 (fun ws kG => r_aload_n S dL_law_445 rfl 1 rfl kG) ?_
      refine gg1 (fun ws kG => r_iload S dL_law_446 5 rfl kG) ?_
      refine gg1 (fun ws kG => r_iload S dL_law_448 10 rfl kG) ?_
      refine gg1 (fun ws kG => r_iconst (v := (1 : Int32)) S dL_law_450 rfl kG) ?_
      refine gg1 (fun ws kG => r_isub S dL_law_451 kG) ?_
      refine gg1 (fun ws kG => r_topI (y := (nI (k - 1))) (by rw [nI_s1 (by omega)]) kG) ?_
      refine gg1 (fun ws kG => r_iconst (v := (0 : Int32)) S dL_law_452 rfl kG) ?_
      refine gg_group_h S B0 (Nat.le_of_ble_eq_true rfl) dL_law_453 (is_k ?_)
      refine gg2 (fun ws kt kf => r_icmp_gt 461 S dL_law_456 (by decide) kt kf) (fun c => ?_) (fun c => absurd (show nI p2 < nI p by rw [nI_ltE (by omega) (by omega)]; exact hlt) c)
      exact tail
set_option maxRecDepth 100000 in
set_option maxHeartbeats 4000000 in
theorem w_head {X : GX} {l0 : Launch} {D0 : va_G} {cI cJ cZ cY : ClassId} (S : Sx X cL_law TsL RL 15 room_1 (TYS cI cJ cZ cY) D0 l0) {b L : Nat} {xs : Nat → Int32} (hXs : Xs X b L xs) (hL : L ≤ 260) {a a' : Nat} {F N : Nat} {X1 Y1 W1 : Nat → Nat} {m3 : Int32} (hF : 5000 ≤ F) (hN : N ≤ 24) {z : Nat} (hz : z ≤ 10) (k : GW X cI cJ cZ cY a a' 424 [(0, .ref b), (1, .ref a), (2, .ref a'), (3, .int m3), (4, .int (nI N)), (5, .int (nI z)), (6, .int (nI (grN X1 Y1 N z))), (7, .int (nI (sumB (szF X1 Y1 N z) 0))), (8, .int (nI (sumB (wtF X1 Y1 W1 N z) 0))), (9, .int (nI (sumB (spF X1 Y1 N z) 0))), (10, .int (nI 0))] [] (N, X1, Y1, W1) (N, X1, Y1, W1)) : GW X cI cJ cZ cY a a' 373 [(0, .ref b), (1, .ref a), (2, .ref a'), (3, .int m3), (4, .int (nI N)), (5, .int (nI z))] [] (N, X1, Y1, W1) (N, X1, Y1, W1) := by
  refine gg1 (fun ws kG => r_aload_n S dL_law_373 rfl 1 rfl kG) ?_
  refine gg1 (fun ws kG => r_iload S dL_law_374 5 rfl kG) ?_
  refine gg_groups_h S (ans_groups hF hz) (Nat.le_of_ble_eq_true rfl) dL_law_376 (is_k ?_)
  refine gg1 (fun ws kG => r_istore S dL_law_379 (Nat.le_of_ble_eq_true rfl) (lv' := [(6, .int (nI (grN X1 Y1 N z))), (0, .ref b), (1, .ref a), (2, .ref a'), (3, .int m3), (4, .int (nI N)), (5, .int (nI z))]) rfl kG) ?_
  refine gg1 (fun ws kG => r_aload_n S dL_law_381 rfl 3 rfl kG) ?_
  refine gg1 (fun ws kG => r_iload S dL_law_382 6 rfl kG) ?_
  refine gg_groups_g S (ans_groups hF hz) (Nat.le_of_ble_eq_true rfl) dL_law_384 (is_k ?_)
  refine gg1 (fun ws kG => r_iload S dL_law_387 0 rfl kG) ?_
  refine gg2 (fun ws kt kf => r_icmp_ne 410 S dL_law_389 (by decide) kt kf) (fun c => absurd rfl c) (fun c => ?_)
  have tail : GW X cI cJ cZ cY a a' 412 [(0, .ref b), (1, .ref a), (2, .ref a'), (3, .int m3), (4, .int (nI N)), (5, .int (nI z)), (6, .int (nI (grN X1 Y1 N z)))] [] (N, X1, Y1, W1) (N, X1, Y1, W1) := by
    refine gg1 (fun ws kG => r_iconst (v := (0 : Int32)) S dL_law_412 rfl kG) ?_
    refine gg1 (fun ws kG => r_istore S dL_law_413 (Nat.le_of_ble_eq_true rfl) (lv' := [(7, .int (0 : Int32)), (0, .ref b), (1, .ref a), (2, .ref a'), (3, .int m3), (4, .int (nI N)), (5, .int (nI z)), (6, .int (nI (grN X1 Y1 N z)))]) rfl kG) ?_
    refine gg1 (fun ws kG => r_iconst (v := (0 : Int32)) S dL_law_415 rfl kG) ?_
    refine gg1 (fun ws kG => r_istore S dL_law_416 (Nat.le_of_ble_eq_true rfl) (lv' := [(8, .int (0 : Int32)), (7, .int (0 : Int32)), (0, .ref b), (1, .ref a), (2, .ref a'), (3, .int m3), (4, .int (nI N)), (5, .int (nI z)), (6, .int (nI (grN X1 Y1 N z)))]) rfl kG) ?_
    refine gg1 (fun ws kG => r_iconst (v := (0 : Int32)) S dL_law_418 rfl kG) ?_
    refine gg1 (fun ws kG => r_istore S dL_law_419 (Nat.le_of_ble_eq_true rfl) (lv' := [(9, .int (0 : Int32)), (8, .int (0 : Int32)), (7, .int (0 : Int32)), (0, .ref b), (1, .ref a), (2, .ref a'), (3, .int m3), (4, .int (nI N)), (5, .int (nI z)), (6, .int (nI (grN X1 Y1 N z)))]) rfl kG) ?_
    refine gg1 (fun ws kG => r_iconst (v := (0 : Int32)) S dL_law_421 rfl kG) ?_
    refine gg1 (fun ws kG => r_istore S dL_law_422 (Nat.le_of_ble_eq_true rfl) (lv' := [(10, .int (0 : Int32)), (9, .int (0 : Int32)), (8, .int (0 : Int32)), (7, .int (0 : Int32)), (0, .ref b), (1, .ref a), (2, .ref a'), (3, .int m3), (4, .int (nI N)), (5, .int (nI z)), (6, .int (nI (grN X1 Y1 N z)))]) rfl kG) ?_
    refine gg1 (fun ws kG => r_lv [4, 5, 6, 7, 8, 9, 10, 3, 2, 1, 0] (lv' := [(0, .ref b), (1, .ref a), (2, .ref a'), (3, .int m3), (4, .int (nI N)), (5, .int (nI z)), (6, .int (nI (grN X1 Y1 N z))), (7, .int (nI (sumB (szF X1 Y1 N z) 0))), (8, .int (nI (sumB (wtF X1 Y1 W1 N z) 0))), (9, .int (nI (sumB (spF X1 Y1 N z) 0))), (10, .int (nI 0))]) rfl kG) ?_
    exact k
  refine gg1 (fun ws kG => r_lv [1, 2, 3, 4, 5, 6, 0] (lv' := [(0, .ref b), (1, .ref a), (2, .ref a'), (3, .int m3), (4, .int (nI N)), (5, .int (nI z)), (6, .int (nI (grN X1 Y1 N z)))]) rfl kG) ?_
  refine gg1 (fun ws kG => r_iload S dL_law_392 5 rfl kG) ?_
  refine gg2 (fun ws kt kf => r_if_le 412 S dL_law_394 (by decide) kt kf) (fun c => ?_) (fun c => ?_)
  · exact tail
  · have z0 : z ≠ 0 := fun q => c (by rw [q]; exact Int32.le_refl _)
    have mg := m_gr (X := X1) (Y := Y1) (z := z - 1) hN
    rw [show z - 1 + 1 = z by omega] at mg
    have g24 := gr_le (X := X1) (Y := Y1) (N := N) (z := z)
    refine gg1 (fun ws kG => r_iload S dL_law_397 6 rfl kG) ?_
    refine gg1 (fun ws kG => r_aload_n S dL_law_399 rfl 1 rfl kG) ?_
    refine gg1 (fun ws kG => r_iload S dL_law_400 5 rfl kG) ?_
    refine gg1 (fun ws kG => r_iconst (v := (1 : Int32)) S dL_law_402 rfl kG) ?_
    refine gg1 (fun ws kG => r_isub S dL_law_403 kG) ?_
    refine gg1 (fun ws kG => r_topI (y := (nI (z - 1))) (by rw [nI_s1 (by omega)]) kG) ?_
    refine gg_groups_h S (ans_groups hF (show z - 1 ≤ 10 by omega)) (Nat.le_of_ble_eq_true rfl) dL_law_404 (is_k ?_)
    refine gg2 (fun ws kt kf => r_icmp_ge 412 S dL_law_407 (by decide) kt kf) (fun c => ?_) (fun c => absurd (show nI (grN X1 Y1 N (z - 1)) ≤ nI (grN X1 Y1 N z) by rw [nI_leE (by omega) (by omega)]; exact mg) c)
    exact tail
set_option maxRecDepth 100000 in
set_option maxHeartbeats 4000000 in
theorem w_end {X : GX} {l0 : Launch} {D0 : va_G} {cI cJ cZ cY : ClassId} (S : Sx X cL_law TsL RL 15 room_1 (TYS cI cJ cZ cY) D0 l0) {b L : Nat} {xs : Nat → Int32} (hXs : Xs X b L xs) (hL : L ≤ 260) {a a' : Nat} {F N : Nat} {X1 Y1 W1 : Nat → Nat} {m3 : Int32} (hF : 5000 ≤ F) (hN : N ≤ 24) {z : Nat} (hz : z ≤ 10) (k : GW X cI cJ cZ cY a a' 366 [(0, .ref b), (1, .ref a), (2, .ref a'), (3, .int m3), (4, .int (nI N)), (5, .int (nI (z + 1)))] [] (N, X1, Y1, W1) (N, X1, Y1, W1)) : GW X cI cJ cZ cY a a' 771 [(0, .ref b), (1, .ref a), (2, .ref a'), (3, .int m3), (4, .int (nI N)), (5, .int (nI z)), (6, .int (nI (grN X1 Y1 N z))), (7, .int (nI (sumB (szF X1 Y1 N z) (grN X1 Y1 N z)))), (8, .int (nI (sumB (wtF X1 Y1 W1 N z) (grN X1 Y1 N z)))), (9, .int (nI (sumB (spF X1 Y1 N z) (grN X1 Y1 N z)))), (10, .int (nI (grN X1 Y1 N z)))] [] (N, X1, Y1, W1) (N, X1, Y1, W1) := by
  refine gg1 (fun ws kG => r_iload S dL_law_771 7 rfl kG) ?_
  refine gg1 (fun ws kG => r_iload S dL_law_773 4 rfl kG) ?_
  refine gg2 (fun ws kt kf => r_icmp_ne 808 S dL_law_775 (by decide) kt kf) (fun c => absurd (show nI (sumB (szF X1 Y1 N z) (grN X1 Y1 N z)) = nI N by rw [sum_sz hN]) c) (fun c => ?_)
  refine gg1 (fun ws kG => r_iload S dL_law_778 8 rfl kG) ?_
  refine gg1 (fun ws kG => r_aload_n S dL_law_780 rfl 1 rfl kG) ?_
  refine gg1 (fun ws kG => r_iconst (v := (1 : Int32)) S dL_law_781 rfl kG) ?_
  refine gg_look_h S (ans_look1 hF) (Nat.le_of_ble_eq_true rfl) dL_law_782 (is_k ?_)
  refine gg2 (fun ws kt kf => r_icmp_ne 808 S dL_law_785 (by decide) kt kf) (fun c => absurd (show nI (sumB (wtF X1 Y1 W1 N z) (grN X1 Y1 N z)) = nI (wtB W1 (2 ^ N - 1) N) by rw [sum_wt hN, m_all]) c) (fun c => ?_)
  refine gg1 (fun ws kG => r_iload S dL_law_788 5 rfl kG) ?_
  refine gg1 (fun ws kG => r_bipush (v := (10 : Int32)) S dL_law_790 rfl kG) ?_
  refine gg2 (fun ws kt kf => r_icmp_ge 810 S dL_law_792 (by decide) kt kf) (fun c => ?_) (fun c => ?_)
  · refine gg1 (fun ws kG => r_iincc S dL_law_810 5 rfl (c0 := (1 : Int32)) rfl (nI_add z 1) (Nat.le_of_ble_eq_true rfl) (lv' := [(5, .int (nI (z + 1))), (0, .ref b), (1, .ref a), (2, .ref a'), (3, .int m3), (4, .int (nI N)), (6, .int (nI (grN X1 Y1 N z))), (7, .int (nI (sumB (szF X1 Y1 N z) (grN X1 Y1 N z)))), (8, .int (nI (sumB (wtF X1 Y1 W1 N z) (grN X1 Y1 N z)))), (9, .int (nI (sumB (spF X1 Y1 N z) (grN X1 Y1 N z)))), (10, .int (nI (grN X1 Y1 N z)))]) rfl kG) ?_
    refine gg1 (fun ws kG => r_goto 366 S dL_law_813 (by decide) kG) ?_
    refine gg1 (fun ws kG => r_lv [1, 2, 3, 4, 5, 0] (lv' := [(0, .ref b), (1, .ref a), (2, .ref a'), (3, .int m3), (4, .int (nI N)), (5, .int (nI (z + 1)))]) rfl kG) ?_
    exact k
  · have hz9 : z < 10 := by
      rw [c10, nI_leE (by omega) (by omega)] at c
      omega
    refine gg1 (fun ws kG => r_iload S dL_law_795 9 rfl kG) ?_
    refine gg1 (fun ws kG => r_aload_n S dL_law_797 rfl 1 rfl kG) ?_
    refine gg1 (fun ws kG => r_iload S dL_law_798 5 rfl kG) ?_
    refine gg1 (fun ws kG => r_iconst (v := (1 : Int32)) S dL_law_800 rfl kG) ?_
    refine gg1 (fun ws kG => r_iadd S dL_law_801 kG) ?_
    refine gg1 (fun ws kG => r_topI (y := (nI (z + 1))) (by rw [show nI z + (1 : Int32) = nI (z + 1) from nI_add z 1]) kG) ?_
    refine gg_groups_h S (ans_groups hF (show z + 1 ≤ 10 by omega)) (Nat.le_of_ble_eq_true rfl) dL_law_802 (is_k ?_)
    refine gg2 (fun ws kt kf => r_icmp_eq 810 S dL_law_805 (by decide) kt kf) (fun c => ?_) (fun c => absurd (show nI (sumB (spF X1 Y1 N z) (grN X1 Y1 N z)) = nI (grN X1 Y1 N (z + 1)) by rw [sum_sp hN hz9]) c)
    refine gg1 (fun ws kG => r_iincc S dL_law_810 5 rfl (c0 := (1 : Int32)) rfl (nI_add z 1) (Nat.le_of_ble_eq_true rfl) (lv' := [(5, .int (nI (z + 1))), (0, .ref b), (1, .ref a), (2, .ref a'), (3, .int m3), (4, .int (nI N)), (6, .int (nI (grN X1 Y1 N z))), (7, .int (nI (sumB (szF X1 Y1 N z) (grN X1 Y1 N z)))), (8, .int (nI (sumB (wtF X1 Y1 W1 N z) (grN X1 Y1 N z)))), (9, .int (nI (sumB (spF X1 Y1 N z) (grN X1 Y1 N z)))), (10, .int (nI (grN X1 Y1 N z)))]) rfl kG) ?_
    refine gg1 (fun ws kG => r_goto 366 S dL_law_813 (by decide) kG) ?_
    refine gg1 (fun ws kG => r_lv [1, 2, 3, 4, 5, 0] (lv' := [(0, .ref b), (1, .ref a), (2, .ref a'), (3, .int m3), (4, .int (nI N)), (5, .int (nI (z + 1)))]) rfl kG) ?_
    exact k
set_option maxRecDepth 100000 in
set_option maxHeartbeats 4000000 in
theorem w_loop6 {X : GX} {l0 : Launch} {D0 : va_G} {cI cJ cZ cY : ClassId} (S : Sx X cL_law TsL RL 15 room_1 (TYS cI cJ cZ cY) D0 l0) {b L : Nat} {xs : Nat → Int32} (hXs : Xs X b L xs) (hL : L ≤ 260) {a a' : Nat} {F N : Nat} {X1 Y1 W1 : Nat → Nat} {m3 : Int32} (hF : 5000 ≤ F) (hN : N ≤ 24) (hR : ∀ (pc : Nat) (lv : List (Nat × Value)) (ws : va_W), decode cL_law pc = .ok (.ireturn, 1) → G X pc lv [.int 1] ws) : ∀ (d z : Nat), z + d = 11 → GW X cI cJ cZ cY a a' 366 [(0, .ref b), (1, .ref a), (2, .ref a'), (3, .int m3), (4, .int (nI N)), (5, .int (nI z))] [] (N, X1, Y1, W1) (N, X1, Y1, W1) := by
  intro d
  induction d with
  | zero =>
    intro z hz
    have e : z = 11 := by omega
    subst e
    refine gg1 (fun ws kG => r_iload S dL_law_366 5 rfl kG) ?_
    refine gg1 (fun ws kG => r_bipush (v := (10 : Int32)) S dL_law_368 rfl kG) ?_
    refine gg2 (fun ws kt kf => r_icmp_gt 816 S dL_law_370 (by decide) kt kf) (fun c => ?_) (fun c => absurd (show (10 : Int32) < nI 11 by decide +kernel) c)
    refine gg1 (fun ws kG => r_iconst (v := (1 : Int32)) S dL_law_816 rfl kG) ?_
    exact fun ad rw ca cl ci fr ad' rw' ca' cl' ci' fr' ha ha' hh hg => hR _ _ _ dL_law_817
  | succ d ih =>
    intro z hz
    refine gg1 (fun ws kG => r_iload S dL_law_366 5 rfl kG) ?_
    refine gg1 (fun ws kG => r_bipush (v := (10 : Int32)) S dL_law_368 rfl kG) ?_
    refine gg2 (fun ws kt kf => r_icmp_gt 816 S dL_law_370 (by decide) kt kf) (fun c => absurd c (show ¬ (10 : Int32) < nI z by rw [c10, nI_ltE (by omega) (by omega)]; omega)) (fun c => ?_)
    exact w_head S hXs hL hF hN (by omega) (w_loop7 S hXs hL hF hN (by omega) (w_end S hXs hL hF hN (by omega) (ih (z + 1) (by omega))) _ 0 (Nat.zero_add _))
set_option maxRecDepth 100000 in
set_option maxHeartbeats 4000000 in
theorem w_law {X : GX} {l0 : Launch} {D0 : va_G} {cI cJ cZ cY : ClassId} (S : Sx X cL_law TsL RL 15 room_1 (TYS cI cJ cZ cY) D0 l0) {b L : Nat} {xs : Nat → Int32} (hXs : Xs X b L xs) (hL : L ≤ 260) {a a' : Nat} {F : Nat} (hF : 5000 ≤ F) (hR : ∀ (pc : Nat) (lv : List (Nat × Value)) (ws : va_W), decode cL_law pc = .ok (.ireturn, 1) → G X pc lv [.int 1] ws) : GW X cI cJ cZ cY a a' 16 [(0, .ref b), (1, .ref a), (2, .ref a')] [] (0, (fun _ => 0), (fun _ => 0), (fun _ => 0)) (0, (fun _ => 0), (fun _ => 0), (fun _ => 0)) := by
  obtain ⟨m, hm, em⟩ := btw_n (x := cellV L xs 0) (hi := 24) (d := 25) (by decide +kernel) (by omega) (by omega)
  refine gg1 (fun ws kG => r_aload_n S dL_law_16 rfl 0 rfl kG) ?_
  refine gg1 (fun ws kG => r_cix S hXs (c_many l0 D0 cI cJ cZ cY hL) (gS u111 u112 u113 u114) ok_Lmany ⟨rfl, rfl⟩ ⟨Nat.le_of_ble_eq_true rfl, Nat.le_of_ble_eq_true rfl⟩ (As := [.ref b]) (rest := []) rfl rfl (Nat.le_of_ble_eq_true rfl) dL_law_17 kG) ?_
  refine gg1 (fun ws kG => r_topI (y := (nI m)) (by rw [em]) kG) ?_
  refine gg1 (fun ws kG => r_istore_n S dL_law_20 rfl (Nat.le_of_ble_eq_true rfl) (lv' := [(3, .int (nI m)), (0, .ref b), (1, .ref a), (2, .ref a')]) rfl kG) ?_
  refine gg1 (fun ws kG => r_iconst (v := (0 : Int32)) S dL_law_21 rfl kG) ?_
  refine gg1 (fun ws kG => r_istore S dL_law_22 (Nat.le_of_ble_eq_true rfl) (lv' := [(4, .int (0 : Int32)), (3, .int (nI m)), (0, .ref b), (1, .ref a), (2, .ref a')]) rfl kG) ?_
  refine gg1 (fun ws kG => r_lv [2, 3, 4, 1, 0] (lv' := [(0, .ref b), (1, .ref a), (2, .ref a'), (3, .int (nI m)), (4, .int (nI 0))]) rfl kG) ?_
  refine w_loop1 S hXs hL hF hm (fun h => ?_) m 0 (Nat.zero_add _) _
  obtain ⟨N, X1, Y1, W1⟩ := h
  refine gg_ok (fun oh _ => ?_)
  have gh : OKM N X1 Y1 W1 := oh
  have hN : N ≤ 24 := gh.1.1
  refine gg1 (fun ws kG => r_aload_n S dL_law_43 rfl 1 rfl kG) ?_
  refine gg1 (fun ws kG => r_iconst (v := (0 : Int32)) S dL_law_44 rfl kG) ?_
  refine gg_look_h S (ans_look0 (F := F) (X := X1) (Y := Y1) (W := W1)) (Nat.le_of_ble_eq_true rfl) dL_law_45 (is_k ?_)
  refine gg1 (fun ws kG => r_istore S dL_law_48 (Nat.le_of_ble_eq_true rfl) (lv' := [(4, .int (nI N)), (0, .ref b), (1, .ref a), (2, .ref a'), (3, .int (nI m))]) rfl kG) ?_
  refine gg1 (fun ws kG => r_iconst (v := (0 : Int32)) S dL_law_50 rfl kG) ?_
  refine gg1 (fun ws kG => r_istore S dL_law_51 (Nat.le_of_ble_eq_true rfl) (lv' := [(5, .int (0 : Int32)), (4, .int (nI N)), (0, .ref b), (1, .ref a), (2, .ref a'), (3, .int (nI m))]) rfl kG) ?_
  refine gg1 (fun ws kG => r_lv [2, 3, 4, 5, 1, 0] (lv' := [(0, .ref b), (1, .ref a), (2, .ref a'), (3, .int (nI m)), (4, .int (nI N)), (5, .int (nI 0))]) rfl kG) ?_
  exact w_loop2 S hXs hL hF gh (w_same S hXs hL hF (w_loop4 S hXs hL hF hN (w_loop6 S hXs hL hF hN hR 11 0 rfl) (N - 1) 0 (Nat.zero_add _))) N 0 (Nat.zero_add _) _ _ _ (fun i hi => absurd hi (Nat.not_lt_zero _))
