def wtX4_squares : List Cond := Cond.code yX4_squares cX4_squares 6 (some .int) :: wsL_law
theorem ok_X4_squares : CallOK yX4_squares wtX4_squares RX4 3 6 := ⟨⟨_, _, _, rfl⟩, rfl, ⟨by decide +kernel, by decide +kernel⟩, by decide +kernel⟩
set_option maxRecDepth 100000 in
set_option maxHeartbeats 4000000 in
theorem c_X4_squares (l0 : Launch) (D0 : va_G) (cI cJ cZ cY : ClassId) (F : Nat) (aT aT_xs aT_ys aT_ws : Nat) (T_count : Int32) (T_xs : Nat → Int32) (T_ys : Nat → Int32) (x1 : Int32) (x2 : Int32) (x3 : Int32) (res : Int32) (hm : mX4_squares F x1 x2 x3 T_xs T_ys = some res) : Ci D0 [(cI, .int), (cJ, .long), (cZ, .boolean), (cY, .array .int)] l0 yX4_squares wtX4_squares ({ frames := 0, cells := 0, slots := 0, locals := 0 }) [.ref aT, .int x1, .int x2, .int x3] (res) [(aT, .inr (4, [.int T_count, .ref aT_xs, .ref aT_ys, .ref aT_ws])), (aT_xs, .inl (cI, 24, .inl T_xs)), (aT_ys, .inl (cI, 24, .inl T_ys))] [(aT, .inr (4, [.int T_count, .ref aT_xs, .ref aT_ys, .ref aT_ws])), (aT_xs, .inl (cI, 24, .inl T_xs)), (aT_ys, .inl (cI, 24, .inl T_ys))] := by
  refine Ci.ofi cX4_squares 6 (own := RX4) (by decide +kernel) rfl rfl (Nat.le_of_ble_eq_true rfl) ?_
  intro X S hR0
  have hR : ∀ (r9 : Int32) (pc : Nat) (lv : List (Nat × Value)), some r9 = some res → decode cX4_squares pc = .ok (.ireturn, 1) → G X pc lv [.int (r9)] [(aT, .inr (4, [.int T_count, .ref aT_xs, .ref aT_ys, .ref aT_ws])), (aT_xs, .inl (cI, 24, .inl T_xs)), (aT_ys, .inl (cI, 24, .inl T_ys))] := fun r9 pc lv h9 hd => by cases h9; exact hR0 pc lv hd
  show G X 0 [(0, .ref aT), (1, .int x1), (2, .int x2), (3, .int x3)] [] [(aT, .inr (4, [.int T_count, .ref aT_xs, .ref aT_ys, .ref aT_ws])), (aT_xs, .inl (cI, 24, .inl T_xs)), (aT_ys, .inl (cI, 24, .inl T_ys))]
  unfold mX4_squares at hm
  refine r_aload_n S dX4_squares_0 rfl 0 rfl ?_
  refine r_get (T := TX4) (ci := 4) S (tlA inlX4) rfl 0 rfl 1 (Nat.le_of_ble_eq_true rfl) (tl u68) rfl dX4_squares_1 ?_
  refine r_iload_n S dX4_squares_4 rfl 1 rfl ?_
  obtain ⟨v1, h_v1, hm⟩ := bS hm
  refine r_iald S h_v1 1 0 rfl rfl dX4_squares_5 ?_
  refine r_iload_n S dX4_squares_6 rfl 2 rfl ?_
  refine r_isub S dX4_squares_7 ?_
  obtain ⟨v2, h_v2, hm⟩ := bS hm
  refine r_topI h_v2 ?_
  refine r_istore S dX4_squares_8 (Nat.le_of_ble_eq_true rfl) (lv' := [(4, .int v2), (0, .ref aT), (1, .int x1), (2, .int x2), (3, .int x3)]) rfl ?_
  refine r_aload_n S dX4_squares_10 rfl 1 rfl ?_
  refine r_get (T := TX4) (ci := 4) S (tlA inlX4) rfl 0 rfl 2 (Nat.le_of_ble_eq_true rfl) (tl u69) rfl dX4_squares_11 ?_
  refine r_iload_n S dX4_squares_14 rfl 2 rfl ?_
  obtain ⟨v3, h_v3, hm⟩ := bS hm
  refine r_iald S h_v3 2 0 rfl rfl dX4_squares_15 ?_
  refine r_iload_n S dX4_squares_16 rfl 4 rfl ?_
  refine r_isub S dX4_squares_17 ?_
  obtain ⟨v4, h_v4, hm⟩ := bS hm
  refine r_topI h_v4 ?_
  refine r_istore S dX4_squares_18 (Nat.le_of_ble_eq_true rfl) (lv' := [(5, .int v4), (4, .int v2), (0, .ref aT), (1, .int x1), (2, .int x2), (3, .int x3)]) rfl ?_
  refine r_iload S dX4_squares_20 1 rfl ?_
  refine r_iload S dX4_squares_22 1 rfl ?_
  refine r_imul S dX4_squares_24 ?_
  refine r_iload S dX4_squares_25 0 rfl ?_
  refine r_iload S dX4_squares_27 0 rfl ?_
  refine r_imul S dX4_squares_29 ?_
  refine r_iadd S dX4_squares_30 ?_
  exact hR ((v2 * v2) + (v4 * v4)) _ _ hm dX4_squares_31
def wtX4_apart : List Cond := Cond.code yX4_apart cX4_apart 3 (some .int) :: wsL_law
theorem ok_X4_apart : CallOK yX4_apart wtX4_apart RX4 2 3 := ⟨⟨_, _, _, rfl⟩, rfl, ⟨by decide +kernel, by decide +kernel⟩, by decide +kernel⟩
set_option maxRecDepth 100000 in
set_option maxHeartbeats 4000000 in
theorem c_X4_apart (l0 : Launch) (D0 : va_G) (cI cJ cZ cY : ClassId) (F : Nat) (aT aT_xs aT_ys aT_ws : Nat) (T_count : Int32) (T_xs : Nat → Int32) (T_ys : Nat → Int32) (x1 : Int32) (x2 : Int32) (res : Int32) (hm : mX4_apart F x1 x2 T_xs T_ys = some res) : Ci D0 [(cI, .int), (cJ, .long), (cZ, .boolean), (cY, .array .int)] l0 yX4_apart wtX4_apart ({ frames := 1, cells := 0, slots := 0, locals := 25 }) [.ref aT, .int x1, .int x2] (res) [(aT, .inr (4, [.int T_count, .ref aT_xs, .ref aT_ys, .ref aT_ws])), (aT_xs, .inl (cI, 24, .inl T_xs)), (aT_ys, .inl (cI, 24, .inl T_ys))] [(aT, .inr (4, [.int T_count, .ref aT_xs, .ref aT_ys, .ref aT_ws])), (aT_xs, .inl (cI, 24, .inl T_xs)), (aT_ys, .inl (cI, 24, .inl T_ys))] := by
  refine Ci.ofi cX4_apart 3 (own := RX4) (by decide +kernel) rfl rfl (Nat.le_of_ble_eq_true rfl) ?_
  intro X S hR0
  have hR : ∀ (r9 : Int32) (pc : Nat) (lv : List (Nat × Value)), some r9 = some res → decode cX4_apart pc = .ok (.ireturn, 1) → G X pc lv [.int (r9)] [(aT, .inr (4, [.int T_count, .ref aT_xs, .ref aT_ys, .ref aT_ws])), (aT_xs, .inl (cI, 24, .inl T_xs)), (aT_ys, .inl (cI, 24, .inl T_ys))] := fun r9 pc lv h9 hd => by cases h9; exact hR0 pc lv hd
  show G X 0 [(0, .ref aT), (1, .int x1), (2, .int x2)] [] [(aT, .inr (4, [.int T_count, .ref aT_xs, .ref aT_ys, .ref aT_ws])), (aT_xs, .inl (cI, 24, .inl T_xs)), (aT_ys, .inl (cI, 24, .inl T_ys))]
  unfold mX4_apart at hm
  refine r_aload_n S dX4_apart_0 rfl 0 rfl ?_
  refine r_iload_n S dX4_apart_1 rfl 1 rfl ?_
  refine r_aload_n S dX4_apart_2 rfl 0 rfl ?_
  refine r_get (T := TX4) (ci := 4) S (tlA inlX4) rfl 0 rfl 1 (Nat.le_of_ble_eq_true rfl) (tl u68) rfl dX4_apart_3 ?_
  refine r_iload_n S dX4_apart_6 rfl 2 rfl ?_
  obtain ⟨v1, h_v1, hm⟩ := bS hm
  refine r_iald S h_v1 1 0 rfl rfl dX4_apart_7 ?_
  refine r_aload_n S dX4_apart_8 rfl 0 rfl ?_
  refine r_get (T := TX4) (ci := 4) S (tlA inlX4) rfl 0 rfl 2 (Nat.le_of_ble_eq_true rfl) (tl u69) rfl dX4_apart_9 ?_
  refine r_iload_n S dX4_apart_12 rfl 2 rfl ?_
  obtain ⟨v2, h_v2, hm⟩ := bS hm
  refine r_iald S h_v2 2 0 rfl rfl dX4_apart_13 ?_
  obtain ⟨r3, h_r3, hm⟩ := bS hm
  refine r_calliV S (c_X4_squares l0 D0 cI cJ cZ cY F aT aT_xs aT_ys aT_ws T_count T_xs T_ys x1 v1 v2 _ h_r3) (gV u188 u189 u190 u46 u191) ok_X4_squares ⟨rfl, rfl⟩ ⟨Nat.le_of_ble_eq_true rfl, Nat.le_of_ble_eq_true rfl⟩ [0, 1, 2] [] rfl (wr := []) rfl rfl rfl (by decide) (ci := 4) (T := TX4) 0 rfl rfl (ws' := [(aT, .inr (4, [.int T_count, .ref aT_xs, .ref aT_ys, .ref aT_ws])), (aT_xs, .inl (cI, 24, .inl T_xs)), (aT_ys, .inl (cI, 24, .inl T_ys))]) rfl (As := [.int x1, .int v1, .int v2]) (rest := []) rfl rfl (Nat.le_of_ble_eq_true rfl) dX4_apart_14 ?_
  exact hR r3 _ _ hm dX4_apart_17
def wtX2_keyOf : List Cond := Cond.code yX2_keyOf cX2_keyOf 3 (some .long) :: wsL_law
theorem ok_X2_keyOf : CallOK yX2_keyOf wtX2_keyOf RX2 2 3 := ⟨⟨_, _, _, rfl⟩, rfl, ⟨by decide +kernel, by decide +kernel⟩, by decide +kernel⟩
set_option maxRecDepth 100000 in
set_option maxHeartbeats 4000000 in
theorem c_X2_keyOf (l0 : Launch) (D0 : va_G) (cI cJ cZ cY : ClassId) (F : Nat) (aT aT_points aT_keys aT_aparts aT_roots aT_firsts aT_seconds aT_parts aT_firstSides aT_otherSides aT_joinsAbove aT_pointsAbove aT_pairs aT_links aT_nodes aT_points_xs aT_points_ys aT_points_ws : Nat) (T_count : Int32) (T_points_count : Int32) (T_points_xs : Nat → Int32) (T_points_ys : Nat → Int32) (x1 : Int32) (x2 : Int32) (res : Int64) (hm : mX2_keyOf F x1 x2 T_points_xs T_points_ys = some res) : Cl D0 [(cI, .int), (cJ, .long), (cZ, .boolean), (cY, .array .int)] l0 yX2_keyOf wtX2_keyOf ({ frames := 2, cells := 0, slots := 0, locals := 47 }) [.ref aT, .int x1, .int x2] (res) [(aT, .inr (2, [.ref aT_points, .int T_count, .ref aT_keys, .ref aT_aparts, .ref aT_roots, .ref aT_firsts, .ref aT_seconds, .ref aT_parts, .ref aT_firstSides, .ref aT_otherSides, .ref aT_joinsAbove, .ref aT_pointsAbove, .ref aT_pairs, .ref aT_links, .ref aT_nodes])), (aT_points, .inr (4, [.int T_points_count, .ref aT_points_xs, .ref aT_points_ys, .ref aT_points_ws])), (aT_points_xs, .inl (cI, 24, .inl T_points_xs)), (aT_points_ys, .inl (cI, 24, .inl T_points_ys))] [(aT, .inr (2, [.ref aT_points, .int T_count, .ref aT_keys, .ref aT_aparts, .ref aT_roots, .ref aT_firsts, .ref aT_seconds, .ref aT_parts, .ref aT_firstSides, .ref aT_otherSides, .ref aT_joinsAbove, .ref aT_pointsAbove, .ref aT_pairs, .ref aT_links, .ref aT_nodes])), (aT_points, .inr (4, [.int T_points_count, .ref aT_points_xs, .ref aT_points_ys, .ref aT_points_ws])), (aT_points_xs, .inl (cI, 24, .inl T_points_xs)), (aT_points_ys, .inl (cI, 24, .inl T_points_ys))] := by
  refine Cl.ofl cX2_keyOf 3 (own := RX2) (by decide +kernel) rfl rfl (Nat.le_of_ble_eq_true rfl) ?_
  intro X S hR0
  have hR : ∀ (r9 : Int64) (pc : Nat) (lv : List (Nat × Value)), some r9 = some res → decode cX2_keyOf pc = .ok (.lreturn, 1) → G X pc lv [.long (r9)] [(aT, .inr (2, [.ref aT_points, .int T_count, .ref aT_keys, .ref aT_aparts, .ref aT_roots, .ref aT_firsts, .ref aT_seconds, .ref aT_parts, .ref aT_firstSides, .ref aT_otherSides, .ref aT_joinsAbove, .ref aT_pointsAbove, .ref aT_pairs, .ref aT_links, .ref aT_nodes])), (aT_points, .inr (4, [.int T_points_count, .ref aT_points_xs, .ref aT_points_ys, .ref aT_points_ws])), (aT_points_xs, .inl (cI, 24, .inl T_points_xs)), (aT_points_ys, .inl (cI, 24, .inl T_points_ys))] := fun r9 pc lv h9 hd => by cases h9; exact hR0 pc lv hd
  show G X 0 [(0, .ref aT), (1, .int x1), (2, .int x2)] [] [(aT, .inr (2, [.ref aT_points, .int T_count, .ref aT_keys, .ref aT_aparts, .ref aT_roots, .ref aT_firsts, .ref aT_seconds, .ref aT_parts, .ref aT_firstSides, .ref aT_otherSides, .ref aT_joinsAbove, .ref aT_pointsAbove, .ref aT_pairs, .ref aT_links, .ref aT_nodes])), (aT_points, .inr (4, [.int T_points_count, .ref aT_points_xs, .ref aT_points_ys, .ref aT_points_ws])), (aT_points_xs, .inl (cI, 24, .inl T_points_xs)), (aT_points_ys, .inl (cI, 24, .inl T_points_ys))]
  unfold mX2_keyOf at hm
  refine r_aload_n S dX2_keyOf_0 rfl 0 rfl ?_
  refine r_get (T := TX2) (ci := 2) S (tlA inlX2) rfl 0 rfl 0 (Nat.le_of_ble_eq_true rfl) (tl u47) rfl dX2_keyOf_1 ?_
  refine r_iload_n S dX2_keyOf_4 rfl 1 rfl ?_
  refine r_iload_n S dX2_keyOf_5 rfl 2 rfl ?_
  obtain ⟨r1, h_r1, hm⟩ := bS hm
  refine r_calliV S (c_X4_apart l0 D0 cI cJ cZ cY F aT_points aT_points_xs aT_points_ys aT_points_ws T_points_count T_points_xs T_points_ys x1 x2 _ h_r1) (gV u184 u185 u186 u46 u187) ok_X4_apart ⟨rfl, rfl⟩ ⟨Nat.le_of_ble_eq_true rfl, Nat.le_of_ble_eq_true rfl⟩ [1, 2, 3] [0] rfl (wr := [(aT, .inr (2, [.ref aT_points, .int T_count, .ref aT_keys, .ref aT_aparts, .ref aT_roots, .ref aT_firsts, .ref aT_seconds, .ref aT_parts, .ref aT_firstSides, .ref aT_otherSides, .ref aT_joinsAbove, .ref aT_pointsAbove, .ref aT_pairs, .ref aT_links, .ref aT_nodes]))]) rfl rfl rfl (by decide) (ci := 4) (T := TX4) 0 rfl rfl (ws' := [(aT, .inr (2, [.ref aT_points, .int T_count, .ref aT_keys, .ref aT_aparts, .ref aT_roots, .ref aT_firsts, .ref aT_seconds, .ref aT_parts, .ref aT_firstSides, .ref aT_otherSides, .ref aT_joinsAbove, .ref aT_pointsAbove, .ref aT_pairs, .ref aT_links, .ref aT_nodes])), (aT_points, .inr (4, [.int T_points_count, .ref aT_points_xs, .ref aT_points_ys, .ref aT_points_ws])), (aT_points_xs, .inl (cI, 24, .inl T_points_xs)), (aT_points_ys, .inl (cI, 24, .inl T_points_ys))]) rfl (As := [.int x1, .int x2]) (rest := []) rfl rfl (Nat.le_of_ble_eq_true rfl) dX2_keyOf_6 ?_
  refine r_i2l S dX2_keyOf_9 ?_
  refine r_bipush (v := (10 : Int32)) S dX2_keyOf_10 rfl ?_
  refine r_lshl S dX2_keyOf_12 ?_
  refine r_iload_n S dX2_keyOf_13 rfl 1 rfl ?_
  refine r_iload_n S dX2_keyOf_14 rfl 2 rfl ?_
  refine r_mmin S (tl u178) (tl u179) (tl u172) (tl u180) (Nat.le_of_ble_eq_true rfl) (Nat.le_of_ble_eq_true rfl) dX2_keyOf_15 ?_
  obtain ⟨v2, h_v2, hm⟩ := bS hm
  refine r_topI h_v2 ?_
  refine r_iconst (v := (5 : Int32)) S dX2_keyOf_18 rfl ?_
  refine r_ishl S dX2_keyOf_19 ?_
  refine r_i2l S dX2_keyOf_20 ?_
  refine r_lor S dX2_keyOf_21 ?_
  refine r_iload_n S dX2_keyOf_22 rfl 1 rfl ?_
  refine r_iload_n S dX2_keyOf_23 rfl 2 rfl ?_
  refine r_mmax S (tl u181) (tl u182) (tl u172) (tl u183) (Nat.le_of_ble_eq_true rfl) (Nat.le_of_ble_eq_true rfl) dX2_keyOf_24 ?_
  obtain ⟨v3, h_v3, hm⟩ := bS hm
  refine r_topI h_v3 ?_
  refine r_i2l S dX2_keyOf_27 ?_
  refine r_lor S dX2_keyOf_28 ?_
  exact hR ((((r1).toInt64 <<< (((10 : Int32)).toInt64 &&& 63)) ||| ((v2 <<< ((5 : Int32) &&& 31))).toInt64) ||| (v3).toInt64) _ _ hm dX2_keyOf_29
def wtX6_has : List Cond := Cond.code yX6_has cX6_has 2 (some .boolean) :: wsL_law
theorem ok_X6_has : CallOK yX6_has wtX6_has RX6 2 2 := ⟨⟨_, _, _, rfl⟩, rfl, ⟨by decide +kernel, by decide +kernel⟩, by decide +kernel⟩
set_option maxRecDepth 100000 in
set_option maxHeartbeats 4000000 in
theorem c_X6_has (l0 : Launch) (D0 : va_G) (cI cJ cZ cY : ClassId) (F : Nat) (x0 : Int32) (x1 : Int32) (res : Int32) (hm : mX6_has F x0 x1 = some res) : Cz D0 [(cI, .int), (cJ, .long), (cZ, .boolean), (cY, .array .int)] l0 yX6_has wtX6_has ({ frames := 0, cells := 0, slots := 0, locals := 0 }) [.int x0, .int x1] (res) [] [] := by
  refine Cz.ofz cX6_has 2 (own := RX6) (by decide +kernel) rfl rfl (Nat.le_of_ble_eq_true rfl) ?_
  intro X S hR0
  have hR : ∀ (r9 : Int32) (pc : Nat) (lv : List (Nat × Value)), some r9 = some res → decode cX6_has pc = .ok (.ireturn, 1) → (r9 = 0 ∨ r9 = 1) → G X pc lv [.int (r9)] [] := fun r9 pc lv h9 hd hz9 => by cases h9; exact hR0 pc lv hd hz9
  show G X 0 [(0, .int x0), (1, .int x1)] [] []
  unfold mX6_has at hm
  refine r_iload_n S dX6_has_0 rfl 0 rfl ?_
  refine r_iload_n S dX6_has_1 rfl 1 rfl ?_
  refine r_ishr S dX6_has_2 ?_
  refine r_iconst (v := (1 : Int32)) S dX6_has_3 rfl ?_
  refine r_iand S dX6_has_4 ?_
  refine r_if_eq 12 S dX6_has_5 (by decide) (fun c1 => ?_) (fun c1 => ?_)
  · replace hm := iT c1 hm
    refine r_iconst (v := (0 : Int32)) S dX6_has_12 rfl ?_
    exact hR (0 : Int32) _ _ hm dX6_has_13 (Or.inl rfl)
  · replace hm := iF c1 hm
    refine r_iconst (v := (1 : Int32)) S dX6_has_8 rfl ?_
    refine r_goto 13 S dX6_has_9 (by decide) ?_
    exact hR (1 : Int32) _ _ hm dX6_has_13 (Or.inr rfl)
def wtX2_nextToGrow : List Cond := Cond.code yX2_nextToGrow cX2_nextToGrow 4 (some .int) :: wsL_law
theorem ok_X2_nextToGrow : CallOK yX2_nextToGrow wtX2_nextToGrow RX2 1 4 := ⟨⟨_, _, _, rfl⟩, rfl, ⟨by decide +kernel, by decide +kernel⟩, by decide +kernel⟩
set_option maxRecDepth 100000 in
set_option maxHeartbeats 4000000 in
theorem c_X2_nextToGrow (l0 : Launch) (D0 : va_G) (cI cJ cZ cY : ClassId) (F : Nat) (aT aT_points aT_keys aT_aparts aT_roots aT_firsts aT_seconds aT_parts aT_firstSides aT_otherSides aT_joinsAbove aT_pointsAbove aT_pairs aT_links aT_nodes aT_points_xs aT_points_ys aT_points_ws : Nat) (T_count : Int32) (T_points_count : Int32) (T_links : Nat → Int64) (x1 : Int32) (res : Int32) (hm : mX2_nextToGrow F x1 T_points_count T_links = some res) : Ci D0 [(cI, .int), (cJ, .long), (cZ, .boolean), (cY, .array .int)] l0 yX2_nextToGrow wtX2_nextToGrow ({ frames := 1, cells := 0, slots := 0, locals := 21 }) [.ref aT, .int x1] (res) [(aT, .inr (2, [.ref aT_points, .int T_count, .ref aT_keys, .ref aT_aparts, .ref aT_roots, .ref aT_firsts, .ref aT_seconds, .ref aT_parts, .ref aT_firstSides, .ref aT_otherSides, .ref aT_joinsAbove, .ref aT_pointsAbove, .ref aT_pairs, .ref aT_links, .ref aT_nodes])), (aT_points, .inr (4, [.int T_points_count, .ref aT_points_xs, .ref aT_points_ys, .ref aT_points_ws])), (aT_links, .inl (cJ, 24, .inr (.inl T_links)))] [(aT, .inr (2, [.ref aT_points, .int T_count, .ref aT_keys, .ref aT_aparts, .ref aT_roots, .ref aT_firsts, .ref aT_seconds, .ref aT_parts, .ref aT_firstSides, .ref aT_otherSides, .ref aT_joinsAbove, .ref aT_pointsAbove, .ref aT_pairs, .ref aT_links, .ref aT_nodes])), (aT_points, .inr (4, [.int T_points_count, .ref aT_points_xs, .ref aT_points_ys, .ref aT_points_ws])), (aT_links, .inl (cJ, 24, .inr (.inl T_links)))] := by
  refine Ci.ofi cX2_nextToGrow 4 (own := RX2) (by decide +kernel) rfl rfl (Nat.le_of_ble_eq_true rfl) ?_
  intro X S hR0
  have hR : ∀ (r9 : Int32) (pc : Nat) (lv : List (Nat × Value)), some r9 = some res → decode cX2_nextToGrow pc = .ok (.ireturn, 1) → G X pc lv [.int (r9)] [(aT, .inr (2, [.ref aT_points, .int T_count, .ref aT_keys, .ref aT_aparts, .ref aT_roots, .ref aT_firsts, .ref aT_seconds, .ref aT_parts, .ref aT_firstSides, .ref aT_otherSides, .ref aT_joinsAbove, .ref aT_pointsAbove, .ref aT_pairs, .ref aT_links, .ref aT_nodes])), (aT_points, .inr (4, [.int T_points_count, .ref aT_points_xs, .ref aT_points_ys, .ref aT_points_ws])), (aT_links, .inl (cJ, 24, .inr (.inl T_links)))] := fun r9 pc lv h9 hd => by cases h9; exact hR0 pc lv hd
  show G X 0 [(0, .ref aT), (1, .int x1)] [] [(aT, .inr (2, [.ref aT_points, .int T_count, .ref aT_keys, .ref aT_aparts, .ref aT_roots, .ref aT_firsts, .ref aT_seconds, .ref aT_parts, .ref aT_firstSides, .ref aT_otherSides, .ref aT_joinsAbove, .ref aT_pointsAbove, .ref aT_pairs, .ref aT_links, .ref aT_nodes])), (aT_points, .inr (4, [.int T_points_count, .ref aT_points_xs, .ref aT_points_ys, .ref aT_points_ws])), (aT_links, .inl (cJ, 24, .inr (.inl T_links)))]
  unfold mX2_nextToGrow at hm
  refine r_iconst (v := (-1 : Int32)) S dX2_nextToGrow_0 rfl ?_
  refine r_istore_n S dX2_nextToGrow_1 rfl (Nat.le_of_ble_eq_true rfl) (lv' := [(2, .int (-1 : Int32)), (0, .ref aT), (1, .int x1)]) rfl ?_
  refine r_iconst (v := (1 : Int32)) S dX2_nextToGrow_2 rfl ?_
  refine r_istore_n S dX2_nextToGrow_3 rfl (Nat.le_of_ble_eq_true rfl) (lv' := [(3, .int (1 : Int32)), (2, .int (-1 : Int32)), (0, .ref aT), (1, .int x1)]) rfl ?_
  have hR4 : ∀ (r9 : Int32) (pc : Nat) (lv : List (Nat × Value)), r9 = res → decode cX2_nextToGrow pc = .ok (.ireturn, 1) → G X pc lv [.int (r9)] [(aT, .inr (2, [.ref aT_points, .int T_count, .ref aT_keys, .ref aT_aparts, .ref aT_roots, .ref aT_firsts, .ref aT_seconds, .ref aT_parts, .ref aT_firstSides, .ref aT_otherSides, .ref aT_joinsAbove, .ref aT_pointsAbove, .ref aT_pairs, .ref aT_links, .ref aT_nodes])), (aT_points, .inr (4, [.int T_points_count, .ref aT_points_xs, .ref aT_points_ys, .ref aT_points_ws])), (aT_links, .inl (cJ, 24, .inr (.inl T_links)))] := fun r9 pc lv h9 hd => hR r9 pc lv (congrArg some h9) hd
  refine r_lv [2, 3, 1, 0] (lv' := [(0, .ref aT), (1, .int x1), (2, .int (-1 : Int32)), (3, .int (1 : Int32))]) rfl ?_
  refine loopG (r0 := res) (Gd := fun s9 => G X 4 [(0, .ref aT), (1, .int x1), (2, .int s9.1), (3, .int s9.2)] [] [(aT, .inr (2, [.ref aT_points, .int T_count, .ref aT_keys, .ref aT_aparts, .ref aT_roots, .ref aT_firsts, .ref aT_seconds, .ref aT_parts, .ref aT_firstSides, .ref aT_otherSides, .ref aT_joinsAbove, .ref aT_pointsAbove, .ref aT_pairs, .ref aT_links, .ref aT_nodes])), (aT_points, .inr (4, [.int T_points_count, .ref aT_points_xs, .ref aT_points_ys, .ref aT_points_ws])), (aT_links, .inl (cJ, 24, .inr (.inl T_links)))]) ?_ _ _ hm
  rintro ⟨x2_4, x3_4⟩ b4 hm hk4 hr4
  replace hm : mX2_nextToGrow_b4 F x1 T_points_count T_links x2_4 x3_4 = some b4 := hm
  unfold mX2_nextToGrow_b4 at hm
  show G X 4 [(0, .ref aT), (1, .int x1), (2, .int x2_4), (3, .int x3_4)] [] [(aT, .inr (2, [.ref aT_points, .int T_count, .ref aT_keys, .ref aT_aparts, .ref aT_roots, .ref aT_firsts, .ref aT_seconds, .ref aT_parts, .ref aT_firstSides, .ref aT_otherSides, .ref aT_joinsAbove, .ref aT_pointsAbove, .ref aT_pairs, .ref aT_links, .ref aT_nodes])), (aT_points, .inr (4, [.int T_points_count, .ref aT_points_xs, .ref aT_points_ys, .ref aT_points_ws])), (aT_links, .inl (cJ, 24, .inr (.inl T_links)))]
  refine r_iload_n S dX2_nextToGrow_4 rfl 3 rfl ?_
  refine r_aload_n S dX2_nextToGrow_5 rfl 0 rfl ?_
  refine r_get (T := TX2) (ci := 2) S (tlA inlX2) rfl 0 rfl 0 (Nat.le_of_ble_eq_true rfl) (tl u47) rfl dX2_nextToGrow_6 ?_
  refine r_get (T := TX4) (ci := 4) S (tlA inlX4) rfl 1 rfl 0 (Nat.le_of_ble_eq_true rfl) (tl u165) rfl dX2_nextToGrow_9 ?_
  refine r_icmp_ge 52 S dX2_nextToGrow_12 (by decide) (fun c2 => ?_) (fun c2 => ?_)
  · replace hm := iT c2 hm
    refine r_iload_n S dX2_nextToGrow_52 rfl 2 rfl ?_
    exact hR4 x2_4 _ _ (hr4 _ (Option.some.inj hm).symm) dX2_nextToGrow_53
  · replace hm := iF c2 hm
    refine r_iload_n S dX2_nextToGrow_15 rfl 1 rfl ?_
    refine r_iload_n S dX2_nextToGrow_16 rfl 3 rfl ?_
    obtain ⟨r3, h_r3, hm⟩ := bS hm
    refine r_callzS S (c_X6_has l0 D0 cI cJ cZ cY F x1 x3_4 _ h_r3) (gS u196 u197 u198 u199) ok_X6_has ⟨rfl, rfl⟩ ⟨Nat.le_of_ble_eq_true rfl, Nat.le_of_ble_eq_true rfl⟩ [] [0, 1, 2] rfl (wr := [(aT, .inr (2, [.ref aT_points, .int T_count, .ref aT_keys, .ref aT_aparts, .ref aT_roots, .ref aT_firsts, .ref aT_seconds, .ref aT_parts, .ref aT_firstSides, .ref aT_otherSides, .ref aT_joinsAbove, .ref aT_pointsAbove, .ref aT_pairs, .ref aT_links, .ref aT_nodes])), (aT_points, .inr (4, [.int T_points_count, .ref aT_points_xs, .ref aT_points_ys, .ref aT_points_ws])), (aT_links, .inl (cJ, 24, .inr (.inl T_links)))]) rfl rfl rfl (by decide) (ws' := [(aT, .inr (2, [.ref aT_points, .int T_count, .ref aT_keys, .ref aT_aparts, .ref aT_roots, .ref aT_firsts, .ref aT_seconds, .ref aT_parts, .ref aT_firstSides, .ref aT_otherSides, .ref aT_joinsAbove, .ref aT_pointsAbove, .ref aT_pairs, .ref aT_links, .ref aT_nodes])), (aT_points, .inr (4, [.int T_points_count, .ref aT_points_xs, .ref aT_points_ys, .ref aT_points_ws])), (aT_links, .inl (cJ, 24, .inr (.inl T_links)))]) rfl (As := [.int x1, .int x3_4]) (rest := []) rfl rfl (Nat.le_of_ble_eq_true rfl) dX2_nextToGrow_17 (fun hz_r3 => ?_)
    refine r_if_ne 46 S dX2_nextToGrow_20 (by decide) (fun c4 => ?_) (fun c4 => ?_)
    · replace hm := iF c4 hm
      refine r_iincc S dX2_nextToGrow_46 3 rfl (c0 := (1 : Int32)) rfl rfl (Nat.le_of_ble_eq_true rfl) (lv' := [(3, .int (x3_4 + (1 : Int32))), (0, .ref aT), (1, .int x1), (2, .int x2_4)]) rfl ?_
      refine r_goto 4 S dX2_nextToGrow_49 (by decide) ?_
      refine r_lv [1, 2, 3, 0] (lv' := [(0, .ref aT), (1, .int x1), (2, .int x2_4), (3, .int (x3_4 + (1 : Int32)))]) rfl ?_
      exact hk4 (x2_4, (x3_4 + (1 : Int32))) (Option.some.inj hm).symm
    · replace hm := iT c4 hm
      refine r_iload_n S dX2_nextToGrow_23 rfl 2 rfl ?_
      refine r_iconst (v := (-1 : Int32)) S dX2_nextToGrow_24 rfl ?_
      refine r_icmp_eq 44 S dX2_nextToGrow_25 (by decide) (fun c5 => ?_) (fun c5 => ?_)
      · replace hm := iT c5 hm
        refine r_iload_n S dX2_nextToGrow_44 rfl 3 rfl ?_
        refine r_istore_n S dX2_nextToGrow_45 rfl (Nat.le_of_ble_eq_true rfl) (lv' := [(2, .int x3_4), (0, .ref aT), (1, .int x1), (3, .int x3_4)]) rfl ?_
        refine r_iincc S dX2_nextToGrow_46 3 rfl (c0 := (1 : Int32)) rfl rfl (Nat.le_of_ble_eq_true rfl) (lv' := [(3, .int (x3_4 + (1 : Int32))), (2, .int x3_4), (0, .ref aT), (1, .int x1)]) rfl ?_
        refine r_goto 4 S dX2_nextToGrow_49 (by decide) ?_
        refine r_lv [2, 3, 1, 0] (lv' := [(0, .ref aT), (1, .int x1), (2, .int x3_4), (3, .int (x3_4 + (1 : Int32)))]) rfl ?_
        exact hk4 (x3_4, (x3_4 + (1 : Int32))) (Option.some.inj hm).symm
      · replace hm := iF c5 hm
        refine r_aload_n S dX2_nextToGrow_28 rfl 0 rfl ?_
        refine r_get (T := TX2) (ci := 2) S (tlA inlX2) rfl 0 rfl 13 (Nat.le_of_ble_eq_true rfl) (tl u61) rfl dX2_nextToGrow_29 ?_
        refine r_iload_n S dX2_nextToGrow_32 rfl 3 rfl ?_
        obtain ⟨v6, h_v6, hm⟩ := bS hm
        refine r_lald S h_v6 2 1 rfl rfl dX2_nextToGrow_33 ?_
        refine r_aload_n S dX2_nextToGrow_34 rfl 0 rfl ?_
        refine r_get (T := TX2) (ci := 2) S (tlA inlX2) rfl 0 rfl 13 (Nat.le_of_ble_eq_true rfl) (tl u61) rfl dX2_nextToGrow_35 ?_
        refine r_iload_n S dX2_nextToGrow_38 rfl 2 rfl ?_
        obtain ⟨v7, h_v7, hm⟩ := bS hm
        refine r_lald S h_v7 2 1 rfl rfl dX2_nextToGrow_39 ?_
        refine r_lcmp S dX2_nextToGrow_40 ?_
        refine r_if_ge 46 S dX2_nextToGrow_41 (by decide) (fun c8 => ?_) (fun c8 => ?_)
        · replace hm := iT c8 hm
          refine r_iincc S dX2_nextToGrow_46 3 rfl (c0 := (1 : Int32)) rfl rfl (Nat.le_of_ble_eq_true rfl) (lv' := [(3, .int (x3_4 + (1 : Int32))), (0, .ref aT), (1, .int x1), (2, .int x2_4)]) rfl ?_
          refine r_goto 4 S dX2_nextToGrow_49 (by decide) ?_
          refine r_lv [1, 2, 3, 0] (lv' := [(0, .ref aT), (1, .int x1), (2, .int x2_4), (3, .int (x3_4 + (1 : Int32)))]) rfl ?_
          exact hk4 (x2_4, (x3_4 + (1 : Int32))) (Option.some.inj hm).symm
        · replace hm := iF c8 hm
          refine r_iload_n S dX2_nextToGrow_44 rfl 3 rfl ?_
          refine r_istore_n S dX2_nextToGrow_45 rfl (Nat.le_of_ble_eq_true rfl) (lv' := [(2, .int x3_4), (0, .ref aT), (1, .int x1), (3, .int x3_4)]) rfl ?_
          refine r_iincc S dX2_nextToGrow_46 3 rfl (c0 := (1 : Int32)) rfl rfl (Nat.le_of_ble_eq_true rfl) (lv' := [(3, .int (x3_4 + (1 : Int32))), (2, .int x3_4), (0, .ref aT), (1, .int x1)]) rfl ?_
          refine r_goto 4 S dX2_nextToGrow_49 (by decide) ?_
          refine r_lv [2, 3, 1, 0] (lv' := [(0, .ref aT), (1, .int x1), (2, .int x3_4), (3, .int (x3_4 + (1 : Int32)))]) rfl ?_
          exact hk4 (x3_4, (x3_4 + (1 : Int32))) (Option.some.inj hm).symm
def wtX2_putKey : List Cond := Cond.code yX2_putKey cX2_putKey 4 none :: wsL_law
theorem ok_X2_putKey : CallOK yX2_putKey wtX2_putKey RX2 1 4 := ⟨⟨_, _, _, rfl⟩, rfl, ⟨by decide +kernel, by decide +kernel⟩, by decide +kernel⟩
set_option maxRecDepth 100000 in
set_option maxHeartbeats 4000000 in
theorem c_X2_putKey (l0 : Launch) (D0 : va_G) (cI cJ cZ cY : ClassId) (F : Nat) (aT aT_points aT_keys aT_aparts aT_roots aT_firsts aT_seconds aT_parts aT_firstSides aT_otherSides aT_joinsAbove aT_pointsAbove aT_pairs aT_links aT_nodes : Nat) (T_count : Int32) (T_keys : Nat → Int64) (x1 : Int64) (res : Int32 × (Nat → Int64)) (hm : mX2_putKey F x1 T_count T_keys = some res) : Cv D0 [(cI, .int), (cJ, .long), (cZ, .boolean), (cY, .array .int)] l0 yX2_putKey wtX2_putKey ({ frames := 0, cells := 0, slots := 0, locals := 0 }) [.ref aT, .long x1] [(aT, .inr (2, [.ref aT_points, .int T_count, .ref aT_keys, .ref aT_aparts, .ref aT_roots, .ref aT_firsts, .ref aT_seconds, .ref aT_parts, .ref aT_firstSides, .ref aT_otherSides, .ref aT_joinsAbove, .ref aT_pointsAbove, .ref aT_pairs, .ref aT_links, .ref aT_nodes])), (aT_keys, .inl (cJ, 24, .inr (.inl T_keys)))] [(aT, .inr (2, [.ref aT_points, .int (res.1), .ref aT_keys, .ref aT_aparts, .ref aT_roots, .ref aT_firsts, .ref aT_seconds, .ref aT_parts, .ref aT_firstSides, .ref aT_otherSides, .ref aT_joinsAbove, .ref aT_pointsAbove, .ref aT_pairs, .ref aT_links, .ref aT_nodes])), (aT_keys, .inl (cJ, 24, .inr (.inl (res.2))))] := by
  refine Cv.ofv cX2_putKey 4 (own := RX2) (by decide +kernel) rfl rfl (Nat.le_of_ble_eq_true rfl) ?_
  intro X S hR0
  have hR : ∀ (r9 : Int32 × (Nat → Int64)) (pc : Nat) (lv : List (Nat × Value)), some r9 = some res → decode cX2_putKey pc = .ok (.return_, 1) → G X pc lv [] [(aT, .inr (2, [.ref aT_points, .int (r9.1), .ref aT_keys, .ref aT_aparts, .ref aT_roots, .ref aT_firsts, .ref aT_seconds, .ref aT_parts, .ref aT_firstSides, .ref aT_otherSides, .ref aT_joinsAbove, .ref aT_pointsAbove, .ref aT_pairs, .ref aT_links, .ref aT_nodes])), (aT_keys, .inl (cJ, 24, .inr (.inl (r9.2))))] := fun r9 pc lv h9 hd => by cases h9; exact hR0 pc lv hd
  show G X 0 [(0, .ref aT), (1, .long x1)] [] [(aT, .inr (2, [.ref aT_points, .int T_count, .ref aT_keys, .ref aT_aparts, .ref aT_roots, .ref aT_firsts, .ref aT_seconds, .ref aT_parts, .ref aT_firstSides, .ref aT_otherSides, .ref aT_joinsAbove, .ref aT_pointsAbove, .ref aT_pairs, .ref aT_links, .ref aT_nodes])), (aT_keys, .inl (cJ, 24, .inr (.inl T_keys)))]
  unfold mX2_putKey at hm
  refine r_aload_n S dX2_putKey_0 rfl 0 rfl ?_
  refine r_get (T := TX2) (ci := 2) S (tlA inlX2) rfl 0 rfl 1 (Nat.le_of_ble_eq_true rfl) (tl u48) rfl dX2_putKey_1 ?_
  refine r_bipush (v := (24 : Int32)) S dX2_putKey_4 rfl ?_
  refine r_icmp_lt 10 S dX2_putKey_6 (by decide) (fun c1 => ?_) (fun c1 => ?_)
  · replace hm := iT c1 hm
    refine r_aload_n S dX2_putKey_10 rfl 0 rfl ?_
    refine r_get (T := TX2) (ci := 2) S (tlA inlX2) rfl 0 rfl 1 (Nat.le_of_ble_eq_true rfl) (tl u48) rfl dX2_putKey_11 ?_
    refine r_istore_n S dX2_putKey_14 rfl (Nat.le_of_ble_eq_true rfl) (lv' := [(3, .int T_count), (0, .ref aT), (1, .long x1)]) rfl ?_
    have hR15 : ∀ (r9 : Int32 × (Nat → Int64)) (pc : Nat) (lv : List (Nat × Value)), r9 = res → decode cX2_putKey pc = .ok (.return_, 1) → G X pc lv [] [(aT, .inr (2, [.ref aT_points, .int (r9.1), .ref aT_keys, .ref aT_aparts, .ref aT_roots, .ref aT_firsts, .ref aT_seconds, .ref aT_parts, .ref aT_firstSides, .ref aT_otherSides, .ref aT_joinsAbove, .ref aT_pointsAbove, .ref aT_pairs, .ref aT_links, .ref aT_nodes])), (aT_keys, .inl (cJ, 24, .inr (.inl (r9.2))))] := fun r9 pc lv h9 hd => hR r9 pc lv (congrArg some h9) hd
    refine r_lv [1, 2, 0] (lv' := [(0, .ref aT), (1, .long x1), (3, .int T_count)]) rfl ?_
    refine loopG (r0 := res) (Gd := fun s9 => G X 15 [(0, .ref aT), (1, .long x1), (3, .int s9.1)] [] [(aT, .inr (2, [.ref aT_points, .int T_count, .ref aT_keys, .ref aT_aparts, .ref aT_roots, .ref aT_firsts, .ref aT_seconds, .ref aT_parts, .ref aT_firstSides, .ref aT_otherSides, .ref aT_joinsAbove, .ref aT_pointsAbove, .ref aT_pairs, .ref aT_links, .ref aT_nodes])), (aT_keys, .inl (cJ, 24, .inr (.inl s9.2)))]) ?_ _ _ hm
    rintro ⟨x3_15, T_keys_15⟩ b15 hm hk15 hr15
    replace hm : mX2_putKey_b15 F x1 T_count x3_15 T_keys_15 = some b15 := hm
    unfold mX2_putKey_b15 at hm
    show G X 15 [(0, .ref aT), (1, .long x1), (3, .int x3_15)] [] [(aT, .inr (2, [.ref aT_points, .int T_count, .ref aT_keys, .ref aT_aparts, .ref aT_roots, .ref aT_firsts, .ref aT_seconds, .ref aT_parts, .ref aT_firstSides, .ref aT_otherSides, .ref aT_joinsAbove, .ref aT_pointsAbove, .ref aT_pairs, .ref aT_links, .ref aT_nodes])), (aT_keys, .inl (cJ, 24, .inr (.inl T_keys_15)))]
    refine r_iload_n S dX2_putKey_15 rfl 2 rfl ?_
    refine r_if_le 52 S dX2_putKey_16 (by decide) (fun c3 => ?_) (fun c3 => ?_)
    · replace hm := iT c3 hm
      refine r_aload_n S dX2_putKey_52 rfl 0 rfl ?_
      refine r_get (T := TX2) (ci := 2) S (tlA inlX2) rfl 0 rfl 2 (Nat.le_of_ble_eq_true rfl) (tl u50) rfl dX2_putKey_53 ?_
      refine r_iload_n S dX2_putKey_56 rfl 2 rfl ?_
      refine r_lload_n S dX2_putKey_57 rfl 1 rfl ?_
      obtain ⟨g4, h_g4, hm⟩ := bS hm
      refine r_last S h_g4 1 1 rfl rfl (ws' := [(aT, .inr (2, [.ref aT_points, .int T_count, .ref aT_keys, .ref aT_aparts, .ref aT_roots, .ref aT_firsts, .ref aT_seconds, .ref aT_parts, .ref aT_firstSides, .ref aT_otherSides, .ref aT_joinsAbove, .ref aT_pointsAbove, .ref aT_pairs, .ref aT_links, .ref aT_nodes])), (aT_keys, .inl (cJ, 24, .inr (.inl g4)))]) rfl dX2_putKey_58 ?_
      refine r_aload_n S dX2_putKey_59 rfl 0 rfl ?_
      refine r_dup S dX2_putKey_60 rfl ?_
      refine r_get (T := TX2) (ci := 2) S (tlA inlX2) rfl 0 rfl 1 (Nat.le_of_ble_eq_true rfl) (tl u48) rfl dX2_putKey_61 ?_
      refine r_iconst (v := (1 : Int32)) S dX2_putKey_64 rfl ?_
      refine r_iadd S dX2_putKey_65 ?_
      obtain ⟨v5, h_v5, hm⟩ := bS hm
      refine r_topI h_v5 ?_
      refine r_put (T := TX2) (ci := 2) S (tlA inlX2) tyX2 tyX2_ok nmX2 rfl 0 rfl 1 (Nat.le_of_ble_eq_true rfl) (tl u48) rfl rfl rfl (Nat.le_of_ble_eq_true rfl) (ws' := [(aT, .inr (2, [.ref aT_points, .int v5, .ref aT_keys, .ref aT_aparts, .ref aT_roots, .ref aT_firsts, .ref aT_seconds, .ref aT_parts, .ref aT_firstSides, .ref aT_otherSides, .ref aT_joinsAbove, .ref aT_pointsAbove, .ref aT_pairs, .ref aT_links, .ref aT_nodes])), (aT_keys, .inl (cJ, 24, .inr (.inl g4)))]) rfl dX2_putKey_66 ?_
      exact hR15 (v5, g4) _ _ (hr15 _ (Option.some.inj hm).symm) dX2_putKey_69
    · replace hm := iF c3 hm
      refine r_aload_n S dX2_putKey_19 rfl 0 rfl ?_
      refine r_get (T := TX2) (ci := 2) S (tlA inlX2) rfl 0 rfl 2 (Nat.le_of_ble_eq_true rfl) (tl u50) rfl dX2_putKey_20 ?_
      refine r_iload_n S dX2_putKey_23 rfl 2 rfl ?_
      refine r_iconst (v := (1 : Int32)) S dX2_putKey_24 rfl ?_
      refine r_isub S dX2_putKey_25 ?_
      obtain ⟨v6, h_v6, hm⟩ := bS hm
      refine r_lald S h_v6 1 1 rfl rfl dX2_putKey_26 ?_
      refine r_lload_n S dX2_putKey_27 rfl 1 rfl ?_
      refine r_lcmp S dX2_putKey_28 ?_
      refine r_if_le 52 S dX2_putKey_29 (by decide) (fun c7 => ?_) (fun c7 => ?_)
      · replace hm := iT c7 hm
        refine r_aload_n S dX2_putKey_52 rfl 0 rfl ?_
        refine r_get (T := TX2) (ci := 2) S (tlA inlX2) rfl 0 rfl 2 (Nat.le_of_ble_eq_true rfl) (tl u50) rfl dX2_putKey_53 ?_
        refine r_iload_n S dX2_putKey_56 rfl 2 rfl ?_
        refine r_lload_n S dX2_putKey_57 rfl 1 rfl ?_
        obtain ⟨g8, h_g8, hm⟩ := bS hm
        refine r_last S h_g8 1 1 rfl rfl (ws' := [(aT, .inr (2, [.ref aT_points, .int T_count, .ref aT_keys, .ref aT_aparts, .ref aT_roots, .ref aT_firsts, .ref aT_seconds, .ref aT_parts, .ref aT_firstSides, .ref aT_otherSides, .ref aT_joinsAbove, .ref aT_pointsAbove, .ref aT_pairs, .ref aT_links, .ref aT_nodes])), (aT_keys, .inl (cJ, 24, .inr (.inl g8)))]) rfl dX2_putKey_58 ?_
        refine r_aload_n S dX2_putKey_59 rfl 0 rfl ?_
        refine r_dup S dX2_putKey_60 rfl ?_
        refine r_get (T := TX2) (ci := 2) S (tlA inlX2) rfl 0 rfl 1 (Nat.le_of_ble_eq_true rfl) (tl u48) rfl dX2_putKey_61 ?_
        refine r_iconst (v := (1 : Int32)) S dX2_putKey_64 rfl ?_
        refine r_iadd S dX2_putKey_65 ?_
        obtain ⟨v9, h_v9, hm⟩ := bS hm
        refine r_topI h_v9 ?_
        refine r_put (T := TX2) (ci := 2) S (tlA inlX2) tyX2 tyX2_ok nmX2 rfl 0 rfl 1 (Nat.le_of_ble_eq_true rfl) (tl u48) rfl rfl rfl (Nat.le_of_ble_eq_true rfl) (ws' := [(aT, .inr (2, [.ref aT_points, .int v9, .ref aT_keys, .ref aT_aparts, .ref aT_roots, .ref aT_firsts, .ref aT_seconds, .ref aT_parts, .ref aT_firstSides, .ref aT_otherSides, .ref aT_joinsAbove, .ref aT_pointsAbove, .ref aT_pairs, .ref aT_links, .ref aT_nodes])), (aT_keys, .inl (cJ, 24, .inr (.inl g8)))]) rfl dX2_putKey_66 ?_
        exact hR15 (v9, g8) _ _ (hr15 _ (Option.some.inj hm).symm) dX2_putKey_69
      · replace hm := iF c7 hm
        refine r_aload_n S dX2_putKey_32 rfl 0 rfl ?_
        refine r_get (T := TX2) (ci := 2) S (tlA inlX2) rfl 0 rfl 2 (Nat.le_of_ble_eq_true rfl) (tl u50) rfl dX2_putKey_33 ?_
        refine r_iload_n S dX2_putKey_36 rfl 2 rfl ?_
        refine r_aload_n S dX2_putKey_37 rfl 0 rfl ?_
        refine r_get (T := TX2) (ci := 2) S (tlA inlX2) rfl 0 rfl 2 (Nat.le_of_ble_eq_true rfl) (tl u50) rfl dX2_putKey_38 ?_
        refine r_iload_n S dX2_putKey_41 rfl 2 rfl ?_
        refine r_iconst (v := (1 : Int32)) S dX2_putKey_42 rfl ?_
        refine r_isub S dX2_putKey_43 ?_
        obtain ⟨v10, h_v10, hm⟩ := bS hm
        refine r_lald S h_v10 1 1 rfl rfl dX2_putKey_44 ?_
        obtain ⟨g11, h_g11, hm⟩ := bS hm
        refine r_last S h_g11 1 1 rfl rfl (ws' := [(aT, .inr (2, [.ref aT_points, .int T_count, .ref aT_keys, .ref aT_aparts, .ref aT_roots, .ref aT_firsts, .ref aT_seconds, .ref aT_parts, .ref aT_firstSides, .ref aT_otherSides, .ref aT_joinsAbove, .ref aT_pointsAbove, .ref aT_pairs, .ref aT_links, .ref aT_nodes])), (aT_keys, .inl (cJ, 24, .inr (.inl g11)))]) rfl dX2_putKey_45 ?_
        refine r_iincc S dX2_putKey_46 2 rfl (c0 := (-1 : Int32)) rfl rfl (Nat.le_of_ble_eq_true rfl) (lv' := [(3, .int (x3_15 + (-1 : Int32))), (0, .ref aT), (1, .long x1)]) rfl ?_
        refine r_goto 15 S dX2_putKey_49 (by decide) ?_
        refine r_lv [1, 2, 0] (lv' := [(0, .ref aT), (1, .long x1), (3, .int (x3_15 + (-1 : Int32)))]) rfl ?_
        exact hk15 ((x3_15 + (-1 : Int32)), g11) (Option.some.inj hm).symm
  · replace hm := iF c1 hm
    exact hR (T_count, T_keys) _ _ hm dX2_putKey_9
def wtX2_growTree : List Cond := Cond.code yX2_growTree cX2_growTree 5 none :: wsL_law
theorem ok_X2_growTree : CallOK yX2_growTree wtX2_growTree RX2 0 5 := ⟨⟨_, _, _, rfl⟩, rfl, ⟨by decide +kernel, by decide +kernel⟩, by decide +kernel⟩
set_option maxRecDepth 100000 in
set_option maxHeartbeats 4000000 in
theorem c_X2_growTree (l0 : Launch) (D0 : va_G) (cI cJ cZ cY : ClassId) (F : Nat) (aT aT_points aT_keys aT_aparts aT_roots aT_firsts aT_seconds aT_parts aT_firstSides aT_otherSides aT_joinsAbove aT_pointsAbove aT_pairs aT_links aT_nodes aT_points_xs aT_points_ys aT_points_ws : Nat) (T_count : Int32) (T_points_count : Int32) (T_keys : Nat → Int64) (T_links : Nat → Int64) (T_points_xs : Nat → Int32) (T_points_ys : Nat → Int32) (res : Int32 × (Nat → Int64) × (Nat → Int64)) (hm : mX2_growTree F T_count T_points_count T_keys T_links T_points_xs T_points_ys = some res) : Cv D0 [(cI, .int), (cJ, .long), (cZ, .boolean), (cY, .array .int)] l0 yX2_growTree wtX2_growTree ({ frames := 3, cells := 0, slots := 0, locals := 69 }) [.ref aT] [(aT, .inr (2, [.ref aT_points, .int T_count, .ref aT_keys, .ref aT_aparts, .ref aT_roots, .ref aT_firsts, .ref aT_seconds, .ref aT_parts, .ref aT_firstSides, .ref aT_otherSides, .ref aT_joinsAbove, .ref aT_pointsAbove, .ref aT_pairs, .ref aT_links, .ref aT_nodes])), (aT_points, .inr (4, [.int T_points_count, .ref aT_points_xs, .ref aT_points_ys, .ref aT_points_ws])), (aT_keys, .inl (cJ, 24, .inr (.inl T_keys))), (aT_links, .inl (cJ, 24, .inr (.inl T_links))), (aT_points_xs, .inl (cI, 24, .inl T_points_xs)), (aT_points_ys, .inl (cI, 24, .inl T_points_ys))] [(aT, .inr (2, [.ref aT_points, .int (res.1), .ref aT_keys, .ref aT_aparts, .ref aT_roots, .ref aT_firsts, .ref aT_seconds, .ref aT_parts, .ref aT_firstSides, .ref aT_otherSides, .ref aT_joinsAbove, .ref aT_pointsAbove, .ref aT_pairs, .ref aT_links, .ref aT_nodes])), (aT_points, .inr (4, [.int T_points_count, .ref aT_points_xs, .ref aT_points_ys, .ref aT_points_ws])), (aT_keys, .inl (cJ, 24, .inr (.inl (res.2.1)))), (aT_links, .inl (cJ, 24, .inr (.inl (res.2.2)))), (aT_points_xs, .inl (cI, 24, .inl T_points_xs)), (aT_points_ys, .inl (cI, 24, .inl T_points_ys))] := by
  refine Cv.ofv cX2_growTree 5 (own := RX2) (by decide +kernel) rfl rfl (Nat.le_of_ble_eq_true rfl) ?_
  intro X S hR0
  have hR : ∀ (r9 : Int32 × (Nat → Int64) × (Nat → Int64)) (pc : Nat) (lv : List (Nat × Value)), some r9 = some res → decode cX2_growTree pc = .ok (.return_, 1) → G X pc lv [] [(aT, .inr (2, [.ref aT_points, .int (r9.1), .ref aT_keys, .ref aT_aparts, .ref aT_roots, .ref aT_firsts, .ref aT_seconds, .ref aT_parts, .ref aT_firstSides, .ref aT_otherSides, .ref aT_joinsAbove, .ref aT_pointsAbove, .ref aT_pairs, .ref aT_links, .ref aT_nodes])), (aT_points, .inr (4, [.int T_points_count, .ref aT_points_xs, .ref aT_points_ys, .ref aT_points_ws])), (aT_keys, .inl (cJ, 24, .inr (.inl (r9.2.1)))), (aT_links, .inl (cJ, 24, .inr (.inl (r9.2.2)))), (aT_points_xs, .inl (cI, 24, .inl T_points_xs)), (aT_points_ys, .inl (cI, 24, .inl T_points_ys))] := fun r9 pc lv h9 hd => by cases h9; exact hR0 pc lv hd
  show G X 0 [(0, .ref aT)] [] [(aT, .inr (2, [.ref aT_points, .int T_count, .ref aT_keys, .ref aT_aparts, .ref aT_roots, .ref aT_firsts, .ref aT_seconds, .ref aT_parts, .ref aT_firstSides, .ref aT_otherSides, .ref aT_joinsAbove, .ref aT_pointsAbove, .ref aT_pairs, .ref aT_links, .ref aT_nodes])), (aT_points, .inr (4, [.int T_points_count, .ref aT_points_xs, .ref aT_points_ys, .ref aT_points_ws])), (aT_keys, .inl (cJ, 24, .inr (.inl T_keys))), (aT_links, .inl (cJ, 24, .inr (.inl T_links))), (aT_points_xs, .inl (cI, 24, .inl T_points_xs)), (aT_points_ys, .inl (cI, 24, .inl T_points_ys))]
  unfold mX2_growTree at hm
  refine r_aload_n S dX2_growTree_0 rfl 0 rfl ?_
  refine r_iconst (v := (0 : Int32)) S dX2_growTree_1 rfl ?_
  refine r_put (T := TX2) (ci := 2) S (tlA inlX2) tyX2 tyX2_ok nmX2 rfl 0 rfl 1 (Nat.le_of_ble_eq_true rfl) (tl u48) rfl rfl rfl (Nat.le_of_ble_eq_true rfl) (ws' := [(aT, .inr (2, [.ref aT_points, .int (0 : Int32), .ref aT_keys, .ref aT_aparts, .ref aT_roots, .ref aT_firsts, .ref aT_seconds, .ref aT_parts, .ref aT_firstSides, .ref aT_otherSides, .ref aT_joinsAbove, .ref aT_pointsAbove, .ref aT_pairs, .ref aT_links, .ref aT_nodes])), (aT_points, .inr (4, [.int T_points_count, .ref aT_points_xs, .ref aT_points_ys, .ref aT_points_ws])), (aT_keys, .inl (cJ, 24, .inr (.inl T_keys))), (aT_links, .inl (cJ, 24, .inr (.inl T_links))), (aT_points_xs, .inl (cI, 24, .inl T_points_xs)), (aT_points_ys, .inl (cI, 24, .inl T_points_ys))]) rfl dX2_growTree_2 ?_
  refine r_iconst (v := (1 : Int32)) S dX2_growTree_5 rfl ?_
  refine r_istore_n S dX2_growTree_6 rfl (Nat.le_of_ble_eq_true rfl) (lv' := [(1, .int (1 : Int32)), (0, .ref aT)]) rfl ?_
  refine r_iconst (v := (1 : Int32)) S dX2_growTree_7 rfl ?_
  refine r_istore_n S dX2_growTree_8 rfl (Nat.le_of_ble_eq_true rfl) (lv' := [(2, .int (1 : Int32)), (1, .int (1 : Int32)), (0, .ref aT)]) rfl ?_
  obtain ⟨q1, hl9, hm⟩ := bS hm
  have hE9_38 : ∀ (r1 : (Nat → Int64)), r1 = q1 → G X 38 [(0, .ref aT), (1, .int (1 : Int32))] [] [(aT, .inr (2, [.ref aT_points, .int (0 : Int32), .ref aT_keys, .ref aT_aparts, .ref aT_roots, .ref aT_firsts, .ref aT_seconds, .ref aT_parts, .ref aT_firstSides, .ref aT_otherSides, .ref aT_joinsAbove, .ref aT_pointsAbove, .ref aT_pairs, .ref aT_links, .ref aT_nodes])), (aT_points, .inr (4, [.int T_points_count, .ref aT_points_xs, .ref aT_points_ys, .ref aT_points_ws])), (aT_keys, .inl (cJ, 24, .inr (.inl T_keys))), (aT_links, .inl (cJ, 24, .inr (.inl r1))), (aT_points_xs, .inl (cI, 24, .inl T_points_xs)), (aT_points_ys, .inl (cI, 24, .inl T_points_ys))] := by
    intro r1 h9
    subst h9
    refine r_iconst (v := (1 : Int32)) S dX2_growTree_38 rfl ?_
    refine r_istore_n S dX2_growTree_39 rfl (Nat.le_of_ble_eq_true rfl) (lv' := [(2, .int (1 : Int32)), (0, .ref aT), (1, .int (1 : Int32))]) rfl ?_
    have hR40 : ∀ (r9 : Int32 × (Nat → Int64) × (Nat → Int64)) (pc : Nat) (lv : List (Nat × Value)), r9 = res → decode cX2_growTree pc = .ok (.return_, 1) → G X pc lv [] [(aT, .inr (2, [.ref aT_points, .int (r9.1), .ref aT_keys, .ref aT_aparts, .ref aT_roots, .ref aT_firsts, .ref aT_seconds, .ref aT_parts, .ref aT_firstSides, .ref aT_otherSides, .ref aT_joinsAbove, .ref aT_pointsAbove, .ref aT_pairs, .ref aT_links, .ref aT_nodes])), (aT_points, .inr (4, [.int T_points_count, .ref aT_points_xs, .ref aT_points_ys, .ref aT_points_ws])), (aT_keys, .inl (cJ, 24, .inr (.inl (r9.2.1)))), (aT_links, .inl (cJ, 24, .inr (.inl (r9.2.2)))), (aT_points_xs, .inl (cI, 24, .inl T_points_xs)), (aT_points_ys, .inl (cI, 24, .inl T_points_ys))] := fun r9 pc lv h9 hd => hR r9 pc lv (congrArg some h9) hd
    refine r_lv [1, 2, 0] (lv' := [(0, .ref aT), (1, .int (1 : Int32)), (2, .int (1 : Int32))]) rfl ?_
    refine loopG (r0 := res) (Gd := fun s9 => G X 40 [(0, .ref aT), (1, .int s9.1), (2, .int s9.2.1)] [] [(aT, .inr (2, [.ref aT_points, .int s9.2.2.1, .ref aT_keys, .ref aT_aparts, .ref aT_roots, .ref aT_firsts, .ref aT_seconds, .ref aT_parts, .ref aT_firstSides, .ref aT_otherSides, .ref aT_joinsAbove, .ref aT_pointsAbove, .ref aT_pairs, .ref aT_links, .ref aT_nodes])), (aT_points, .inr (4, [.int T_points_count, .ref aT_points_xs, .ref aT_points_ys, .ref aT_points_ws])), (aT_keys, .inl (cJ, 24, .inr (.inl s9.2.2.2.1))), (aT_links, .inl (cJ, 24, .inr (.inl s9.2.2.2.2))), (aT_points_xs, .inl (cI, 24, .inl T_points_xs)), (aT_points_ys, .inl (cI, 24, .inl T_points_ys))]) ?_ _ _ hm
    rintro ⟨x1_40, x2_40, T_count_40, T_keys_40, T_links_40⟩ b40 hm hk40 hr40
    replace hm : mX2_growTree_b40 F T_points_count T_points_xs T_points_ys x1_40 x2_40 T_count_40 T_keys_40 T_links_40 = some b40 := hm
    unfold mX2_growTree_b40 at hm
    show G X 40 [(0, .ref aT), (1, .int x1_40), (2, .int x2_40)] [] [(aT, .inr (2, [.ref aT_points, .int T_count_40, .ref aT_keys, .ref aT_aparts, .ref aT_roots, .ref aT_firsts, .ref aT_seconds, .ref aT_parts, .ref aT_firstSides, .ref aT_otherSides, .ref aT_joinsAbove, .ref aT_pointsAbove, .ref aT_pairs, .ref aT_links, .ref aT_nodes])), (aT_points, .inr (4, [.int T_points_count, .ref aT_points_xs, .ref aT_points_ys, .ref aT_points_ws])), (aT_keys, .inl (cJ, 24, .inr (.inl T_keys_40))), (aT_links, .inl (cJ, 24, .inr (.inl T_links_40))), (aT_points_xs, .inl (cI, 24, .inl T_points_xs)), (aT_points_ys, .inl (cI, 24, .inl T_points_ys))]
    refine r_iload_n S dX2_growTree_40 rfl 2 rfl ?_
    refine r_aload_n S dX2_growTree_41 rfl 0 rfl ?_
    refine r_get (T := TX2) (ci := 2) S (tlA inlX2) rfl 0 rfl 0 (Nat.le_of_ble_eq_true rfl) (tl u47) rfl dX2_growTree_42 ?_
    refine r_get (T := TX4) (ci := 4) S (tlA inlX4) rfl 1 rfl 0 (Nat.le_of_ble_eq_true rfl) (tl u165) rfl dX2_growTree_45 ?_
    refine r_icmp_ge 139 S dX2_growTree_48 (by decide) (fun c6 => ?_) (fun c6 => ?_)
    · replace hm := iT c6 hm
      exact hR40 (T_count_40, T_keys_40, T_links_40) _ _ (hr40 _ (Option.some.inj hm).symm) dX2_growTree_139
    · replace hm := iF c6 hm
      refine r_aload_n S dX2_growTree_51 rfl 0 rfl ?_
      refine r_iload_n S dX2_growTree_52 rfl 1 rfl ?_
      obtain ⟨r7, h_r7, hm⟩ := bS hm
      refine r_calliV S (c_X2_nextToGrow l0 D0 cI cJ cZ cY F aT aT_points aT_keys aT_aparts aT_roots aT_firsts aT_seconds aT_parts aT_firstSides aT_otherSides aT_joinsAbove aT_pointsAbove aT_pairs aT_links aT_nodes aT_points_xs aT_points_ys aT_points_ws T_count_40 T_points_count T_links_40 x1_40 _ h_r7) (gV u192 u193 u194 u11 u195) ok_X2_nextToGrow ⟨rfl, rfl⟩ ⟨Nat.le_of_ble_eq_true rfl, Nat.le_of_ble_eq_true rfl⟩ [0, 1, 3] [2, 4, 5] rfl (wr := [(aT_keys, .inl (cJ, 24, .inr (.inl T_keys_40))), (aT_points_xs, .inl (cI, 24, .inl T_points_xs)), (aT_points_ys, .inl (cI, 24, .inl T_points_ys))]) rfl rfl rfl (by decide) (ci := 2) (T := TX2) 0 rfl rfl (ws' := [(aT_keys, .inl (cJ, 24, .inr (.inl T_keys_40))), (aT_points_xs, .inl (cI, 24, .inl T_points_xs)), (aT_points_ys, .inl (cI, 24, .inl T_points_ys)), (aT, .inr (2, [.ref aT_points, .int T_count_40, .ref aT_keys, .ref aT_aparts, .ref aT_roots, .ref aT_firsts, .ref aT_seconds, .ref aT_parts, .ref aT_firstSides, .ref aT_otherSides, .ref aT_joinsAbove, .ref aT_pointsAbove, .ref aT_pairs, .ref aT_links, .ref aT_nodes])), (aT_points, .inr (4, [.int T_points_count, .ref aT_points_xs, .ref aT_points_ys, .ref aT_points_ws])), (aT_links, .inl (cJ, 24, .inr (.inl T_links_40)))]) rfl (As := [.int x1_40]) (rest := []) rfl rfl (Nat.le_of_ble_eq_true rfl) dX2_growTree_53 ?_
      refine r_istore_n S dX2_growTree_56 rfl (Nat.le_of_ble_eq_true rfl) (lv' := [(3, .int r7), (0, .ref aT), (1, .int x1_40), (2, .int x2_40)]) rfl ?_
      refine r_iload_n S dX2_growTree_57 rfl 0 rfl ?_
      refine r_iconst (v := (-1 : Int32)) S dX2_growTree_58 rfl ?_
      refine r_icmp_ne 63 S dX2_growTree_59 (by decide) (fun c8 => ?_) (fun c8 => ?_)
      · replace hm := iF c8 hm
        refine r_aload_n S dX2_growTree_63 rfl 1 rfl ?_
        refine r_aload_n S dX2_growTree_64 rfl 1 rfl ?_
        refine r_get (T := TX2) (ci := 2) S (tlA inlX2) rfl 3 rfl 13 (Nat.le_of_ble_eq_true rfl) (tl u61) rfl dX2_growTree_65 ?_
        refine r_iload_n S dX2_growTree_68 rfl 0 rfl ?_
        obtain ⟨v9, h_v9, hm⟩ := bS hm
        refine r_lald S h_v9 5 1 rfl rfl dX2_growTree_69 ?_
        obtain ⟨r10, h_r10, hm⟩ := bS hm
        refine r_callvV S (c_X2_putKey l0 D0 cI cJ cZ cY F aT aT_points aT_keys aT_aparts aT_roots aT_firsts aT_seconds aT_parts aT_firstSides aT_otherSides aT_joinsAbove aT_pointsAbove aT_pairs aT_links aT_nodes T_count_40 T_keys_40 v9 _ h_r10) (gV u200 u201 u202 u11 u203) ok_X2_putKey ⟨rfl, rfl⟩ ⟨Nat.le_of_ble_eq_true rfl, Nat.le_of_ble_eq_true rfl⟩ [3, 0] [1, 2, 4, 5] rfl (wr := [(aT_points_xs, .inl (cI, 24, .inl T_points_xs)), (aT_points_ys, .inl (cI, 24, .inl T_points_ys)), (aT_points, .inr (4, [.int T_points_count, .ref aT_points_xs, .ref aT_points_ys, .ref aT_points_ws])), (aT_links, .inl (cJ, 24, .inr (.inl T_links_40)))]) rfl rfl rfl (by decide) (ci := 2) (T := TX2) 0 rfl rfl (ws' := [(aT_points_xs, .inl (cI, 24, .inl T_points_xs)), (aT_points_ys, .inl (cI, 24, .inl T_points_ys)), (aT_points, .inr (4, [.int T_points_count, .ref aT_points_xs, .ref aT_points_ys, .ref aT_points_ws])), (aT_links, .inl (cJ, 24, .inr (.inl T_links_40))), (aT, .inr (2, [.ref aT_points, .int r10.1, .ref aT_keys, .ref aT_aparts, .ref aT_roots, .ref aT_firsts, .ref aT_seconds, .ref aT_parts, .ref aT_firstSides, .ref aT_otherSides, .ref aT_joinsAbove, .ref aT_pointsAbove, .ref aT_pairs, .ref aT_links, .ref aT_nodes])), (aT_keys, .inl (cJ, 24, .inr (.inl r10.2)))]) rfl (As := [.long v9]) (rest := []) rfl rfl (Nat.le_of_ble_eq_true rfl) dX2_growTree_70 ?_
        refine r_iload_n S dX2_growTree_73 rfl 2 rfl ?_
        refine r_iconst (v := (1 : Int32)) S dX2_growTree_74 rfl ?_
        refine r_iload_n S dX2_growTree_75 rfl 0 rfl ?_
        refine r_ishl S dX2_growTree_76 ?_
        refine r_ior S dX2_growTree_77 ?_
        obtain ⟨v11, h_v11, hm⟩ := bS hm
        refine r_topI h_v11 ?_
        refine r_istore_n S dX2_growTree_78 rfl (Nat.le_of_ble_eq_true rfl) (lv' := [(1, .int v11), (3, .int r7), (0, .ref aT), (2, .int x2_40)]) rfl ?_
        refine r_iconst (v := (1 : Int32)) S dX2_growTree_79 rfl ?_
        refine r_istore S dX2_growTree_80 (Nat.le_of_ble_eq_true rfl) (lv' := [(4, .int (1 : Int32)), (1, .int v11), (3, .int r7), (0, .ref aT), (2, .int x2_40)]) rfl ?_
        obtain ⟨q12, hl82, hm⟩ := bS hm
        have hE82_133 : ∀ (r12 : (Nat → Int64)), r12 = q12 → G X 133 [(0, .ref aT), (1, .int v11), (2, .int x2_40)] [] [(aT, .inr (2, [.ref aT_points, .int r10.1, .ref aT_keys, .ref aT_aparts, .ref aT_roots, .ref aT_firsts, .ref aT_seconds, .ref aT_parts, .ref aT_firstSides, .ref aT_otherSides, .ref aT_joinsAbove, .ref aT_pointsAbove, .ref aT_pairs, .ref aT_links, .ref aT_nodes])), (aT_points, .inr (4, [.int T_points_count, .ref aT_points_xs, .ref aT_points_ys, .ref aT_points_ws])), (aT_keys, .inl (cJ, 24, .inr (.inl r10.2))), (aT_links, .inl (cJ, 24, .inr (.inl r12))), (aT_points_xs, .inl (cI, 24, .inl T_points_xs)), (aT_points_ys, .inl (cI, 24, .inl T_points_ys))] := by
          intro r12 h9
          subst h9
          refine r_iincc S dX2_growTree_133 2 rfl (c0 := (1 : Int32)) rfl rfl (Nat.le_of_ble_eq_true rfl) (lv' := [(2, .int (x2_40 + (1 : Int32))), (0, .ref aT), (1, .int v11)]) rfl ?_
          refine r_goto 40 S dX2_growTree_136 (by decide) ?_
          refine r_lv [1, 2, 0] (lv' := [(0, .ref aT), (1, .int v11), (2, .int (x2_40 + (1 : Int32)))]) rfl ?_
          exact hk40 (v11, (x2_40 + (1 : Int32)), r10.1, r10.2, r12) (Option.some.inj hm).symm
        refine r_perm [4, 2, 5, 3, 0, 1] (ws' := [(aT, .inr (2, [.ref aT_points, .int r10.1, .ref aT_keys, .ref aT_aparts, .ref aT_roots, .ref aT_firsts, .ref aT_seconds, .ref aT_parts, .ref aT_firstSides, .ref aT_otherSides, .ref aT_joinsAbove, .ref aT_pointsAbove, .ref aT_pairs, .ref aT_links, .ref aT_nodes])), (aT_points, .inr (4, [.int T_points_count, .ref aT_points_xs, .ref aT_points_ys, .ref aT_points_ws])), (aT_keys, .inl (cJ, 24, .inr (.inl r10.2))), (aT_links, .inl (cJ, 24, .inr (.inl T_links_40))), (aT_points_xs, .inl (cI, 24, .inl T_points_xs)), (aT_points_ys, .inl (cI, 24, .inl T_points_ys))]) rfl rfl ?_
        refine r_lv [3, 1, 4, 2, 0] (lv' := [(0, .ref aT), (1, .int v11), (2, .int x2_40), (3, .int r7), (4, .int (1 : Int32))]) rfl ?_
        refine loopG (r0 := q12) (Gd := fun s9 => G X 82 [(0, .ref aT), (1, .int v11), (2, .int x2_40), (3, .int r7), (4, .int s9.1)] [] [(aT, .inr (2, [.ref aT_points, .int r10.1, .ref aT_keys, .ref aT_aparts, .ref aT_roots, .ref aT_firsts, .ref aT_seconds, .ref aT_parts, .ref aT_firstSides, .ref aT_otherSides, .ref aT_joinsAbove, .ref aT_pointsAbove, .ref aT_pairs, .ref aT_links, .ref aT_nodes])), (aT_points, .inr (4, [.int T_points_count, .ref aT_points_xs, .ref aT_points_ys, .ref aT_points_ws])), (aT_keys, .inl (cJ, 24, .inr (.inl r10.2))), (aT_links, .inl (cJ, 24, .inr (.inl s9.2))), (aT_points_xs, .inl (cI, 24, .inl T_points_xs)), (aT_points_ys, .inl (cI, 24, .inl T_points_ys))]) ?_ _ _ hl82
        rintro ⟨x4_82, T_links_82⟩ b82 hm hk82 hr82
        replace hm : mX2_growTree_b82 F T_points_count T_points_xs T_points_ys r7 v11 x4_82 T_links_82 = some b82 := hm
        unfold mX2_growTree_b82 at hm
        show G X 82 [(0, .ref aT), (1, .int v11), (2, .int x2_40), (3, .int r7), (4, .int x4_82)] [] [(aT, .inr (2, [.ref aT_points, .int r10.1, .ref aT_keys, .ref aT_aparts, .ref aT_roots, .ref aT_firsts, .ref aT_seconds, .ref aT_parts, .ref aT_firstSides, .ref aT_otherSides, .ref aT_joinsAbove, .ref aT_pointsAbove, .ref aT_pairs, .ref aT_links, .ref aT_nodes])), (aT_points, .inr (4, [.int T_points_count, .ref aT_points_xs, .ref aT_points_ys, .ref aT_points_ws])), (aT_keys, .inl (cJ, 24, .inr (.inl r10.2))), (aT_links, .inl (cJ, 24, .inr (.inl T_links_82))), (aT_points_xs, .inl (cI, 24, .inl T_points_xs)), (aT_points_ys, .inl (cI, 24, .inl T_points_ys))]
        refine r_iload S dX2_growTree_82 4 rfl ?_
        refine r_aload_n S dX2_growTree_84 rfl 0 rfl ?_
        refine r_get (T := TX2) (ci := 2) S (tlA inlX2) rfl 0 rfl 0 (Nat.le_of_ble_eq_true rfl) (tl u47) rfl dX2_growTree_85 ?_
        refine r_get (T := TX4) (ci := 4) S (tlA inlX4) rfl 1 rfl 0 (Nat.le_of_ble_eq_true rfl) (tl u165) rfl dX2_growTree_88 ?_
        refine r_icmp_ge 133 S dX2_growTree_91 (by decide) (fun c13 => ?_) (fun c13 => ?_)
        · replace hm := iT c13 hm
          refine r_lv [0, 1, 2] (lv' := [(0, .ref aT), (1, .int v11), (2, .int x2_40)]) rfl ?_
          exact hE82_133 T_links_82 (hr82 _ (Option.some.inj hm).symm)
        · replace hm := iF c13 hm
          refine r_iload_n S dX2_growTree_94 rfl 1 rfl ?_
          refine r_iload S dX2_growTree_95 4 rfl ?_
          obtain ⟨r14, h_r14, hm⟩ := bS hm
          refine r_callzS S (c_X6_has l0 D0 cI cJ cZ cY F v11 x4_82 _ h_r14) (gS u196 u197 u198 u199) ok_X6_has ⟨rfl, rfl⟩ ⟨Nat.le_of_ble_eq_true rfl, Nat.le_of_ble_eq_true rfl⟩ [] [0, 1, 2, 3, 4, 5] rfl (wr := [(aT, .inr (2, [.ref aT_points, .int r10.1, .ref aT_keys, .ref aT_aparts, .ref aT_roots, .ref aT_firsts, .ref aT_seconds, .ref aT_parts, .ref aT_firstSides, .ref aT_otherSides, .ref aT_joinsAbove, .ref aT_pointsAbove, .ref aT_pairs, .ref aT_links, .ref aT_nodes])), (aT_points, .inr (4, [.int T_points_count, .ref aT_points_xs, .ref aT_points_ys, .ref aT_points_ws])), (aT_keys, .inl (cJ, 24, .inr (.inl r10.2))), (aT_links, .inl (cJ, 24, .inr (.inl T_links_82))), (aT_points_xs, .inl (cI, 24, .inl T_points_xs)), (aT_points_ys, .inl (cI, 24, .inl T_points_ys))]) rfl rfl rfl (by decide) (ws' := [(aT, .inr (2, [.ref aT_points, .int r10.1, .ref aT_keys, .ref aT_aparts, .ref aT_roots, .ref aT_firsts, .ref aT_seconds, .ref aT_parts, .ref aT_firstSides, .ref aT_otherSides, .ref aT_joinsAbove, .ref aT_pointsAbove, .ref aT_pairs, .ref aT_links, .ref aT_nodes])), (aT_points, .inr (4, [.int T_points_count, .ref aT_points_xs, .ref aT_points_ys, .ref aT_points_ws])), (aT_keys, .inl (cJ, 24, .inr (.inl r10.2))), (aT_links, .inl (cJ, 24, .inr (.inl T_links_82))), (aT_points_xs, .inl (cI, 24, .inl T_points_xs)), (aT_points_ys, .inl (cI, 24, .inl T_points_ys))]) rfl (As := [.int v11, .int x4_82]) (rest := []) rfl rfl (Nat.le_of_ble_eq_true rfl) dX2_growTree_97 (fun hz_r14 => ?_)
          refine r_if_ne 127 S dX2_growTree_100 (by decide) (fun c15 => ?_) (fun c15 => ?_)
          · replace hm := iF c15 hm
            refine r_iincc S dX2_growTree_127 4 rfl (c0 := (1 : Int32)) rfl rfl (Nat.le_of_ble_eq_true rfl) (lv' := [(4, .int (x4_82 + (1 : Int32))), (0, .ref aT), (1, .int v11), (2, .int x2_40), (3, .int r7)]) rfl ?_
            refine r_goto 82 S dX2_growTree_130 (by decide) ?_
            refine r_lv [1, 2, 3, 4, 0] (lv' := [(0, .ref aT), (1, .int v11), (2, .int x2_40), (3, .int r7), (4, .int (x4_82 + (1 : Int32)))]) rfl ?_
            exact hk82 ((x4_82 + (1 : Int32)), T_links_82) (Option.some.inj hm).symm
          · replace hm := iT c15 hm
            refine r_aload_n S dX2_growTree_103 rfl 0 rfl ?_
            refine r_get (T := TX2) (ci := 2) S (tlA inlX2) rfl 0 rfl 13 (Nat.le_of_ble_eq_true rfl) (tl u61) rfl dX2_growTree_104 ?_
            refine r_iload S dX2_growTree_107 4 rfl ?_
            refine r_aload_n S dX2_growTree_109 rfl 0 rfl ?_
            refine r_get (T := TX2) (ci := 2) S (tlA inlX2) rfl 0 rfl 13 (Nat.le_of_ble_eq_true rfl) (tl u61) rfl dX2_growTree_110 ?_
            refine r_iload S dX2_growTree_113 4 rfl ?_
            obtain ⟨v16, h_v16, hm⟩ := bS hm
            refine r_lald S h_v16 3 1 rfl rfl dX2_growTree_115 ?_
            refine r_aload_n S dX2_growTree_116 rfl 0 rfl ?_
            refine r_iload_n S dX2_growTree_117 rfl 3 rfl ?_
            refine r_iload S dX2_growTree_118 4 rfl ?_
            obtain ⟨r17, h_r17, hm⟩ := bS hm
            refine r_calllV S (c_X2_keyOf l0 D0 cI cJ cZ cY F aT aT_points aT_keys aT_aparts aT_roots aT_firsts aT_seconds aT_parts aT_firstSides aT_otherSides aT_joinsAbove aT_pointsAbove aT_pairs aT_links aT_nodes aT_points_xs aT_points_ys aT_points_ws r10.1 T_points_count T_points_xs T_points_ys r7 x4_82 _ h_r17) (gV u174 u175 u176 u11 u177) ok_X2_keyOf ⟨rfl, rfl⟩ ⟨Nat.le_of_ble_eq_true rfl, Nat.le_of_ble_eq_true rfl⟩ [0, 1, 4, 5] [2, 3] rfl (wr := [(aT_keys, .inl (cJ, 24, .inr (.inl r10.2))), (aT_links, .inl (cJ, 24, .inr (.inl T_links_82)))]) rfl rfl rfl (by decide) (ci := 2) (T := TX2) 0 rfl rfl (ws' := [(aT_keys, .inl (cJ, 24, .inr (.inl r10.2))), (aT_links, .inl (cJ, 24, .inr (.inl T_links_82))), (aT, .inr (2, [.ref aT_points, .int r10.1, .ref aT_keys, .ref aT_aparts, .ref aT_roots, .ref aT_firsts, .ref aT_seconds, .ref aT_parts, .ref aT_firstSides, .ref aT_otherSides, .ref aT_joinsAbove, .ref aT_pointsAbove, .ref aT_pairs, .ref aT_links, .ref aT_nodes])), (aT_points, .inr (4, [.int T_points_count, .ref aT_points_xs, .ref aT_points_ys, .ref aT_points_ws])), (aT_points_xs, .inl (cI, 24, .inl T_points_xs)), (aT_points_ys, .inl (cI, 24, .inl T_points_ys))]) rfl (As := [.int r7, .int x4_82]) (rest := [.long v16, .int x4_82, .ref aT_links]) rfl rfl (Nat.le_of_ble_eq_true rfl) dX2_growTree_120 ?_
            refine r_mmin_long S (tl u170) (tl u171) (tl u172) (tl u173) (Nat.le_of_ble_eq_true rfl) (Nat.le_of_ble_eq_true rfl) dX2_growTree_123 ?_
            obtain ⟨v18, h_v18, hm⟩ := bS hm
            refine r_topL h_v18 ?_
            obtain ⟨g19, h_g19, hm⟩ := bS hm
            refine r_last S h_g19 1 1 rfl rfl (ws' := [(aT_keys, .inl (cJ, 24, .inr (.inl r10.2))), (aT_links, .inl (cJ, 24, .inr (.inl g19))), (aT, .inr (2, [.ref aT_points, .int r10.1, .ref aT_keys, .ref aT_aparts, .ref aT_roots, .ref aT_firsts, .ref aT_seconds, .ref aT_parts, .ref aT_firstSides, .ref aT_otherSides, .ref aT_joinsAbove, .ref aT_pointsAbove, .ref aT_pairs, .ref aT_links, .ref aT_nodes])), (aT_points, .inr (4, [.int T_points_count, .ref aT_points_xs, .ref aT_points_ys, .ref aT_points_ws])), (aT_points_xs, .inl (cI, 24, .inl T_points_xs)), (aT_points_ys, .inl (cI, 24, .inl T_points_ys))]) rfl dX2_growTree_126 ?_
            refine r_iincc S dX2_growTree_127 4 rfl (c0 := (1 : Int32)) rfl rfl (Nat.le_of_ble_eq_true rfl) (lv' := [(4, .int (x4_82 + (1 : Int32))), (0, .ref aT), (1, .int v11), (2, .int x2_40), (3, .int r7)]) rfl ?_
            refine r_goto 82 S dX2_growTree_130 (by decide) ?_
            refine r_perm [2, 3, 0, 1, 4, 5] (ws' := [(aT, .inr (2, [.ref aT_points, .int r10.1, .ref aT_keys, .ref aT_aparts, .ref aT_roots, .ref aT_firsts, .ref aT_seconds, .ref aT_parts, .ref aT_firstSides, .ref aT_otherSides, .ref aT_joinsAbove, .ref aT_pointsAbove, .ref aT_pairs, .ref aT_links, .ref aT_nodes])), (aT_points, .inr (4, [.int T_points_count, .ref aT_points_xs, .ref aT_points_ys, .ref aT_points_ws])), (aT_keys, .inl (cJ, 24, .inr (.inl r10.2))), (aT_links, .inl (cJ, 24, .inr (.inl g19))), (aT_points_xs, .inl (cI, 24, .inl T_points_xs)), (aT_points_ys, .inl (cI, 24, .inl T_points_ys))]) rfl rfl ?_
            refine r_lv [1, 2, 3, 4, 0] (lv' := [(0, .ref aT), (1, .int v11), (2, .int x2_40), (3, .int r7), (4, .int (x4_82 + (1 : Int32)))]) rfl ?_
            exact hk82 ((x4_82 + (1 : Int32)), g19) (Option.some.inj hm).symm
      · replace hm := iT c8 hm
        refine r_perm [3, 4, 0, 5, 1, 2] (ws' := [(aT, .inr (2, [.ref aT_points, .int T_count_40, .ref aT_keys, .ref aT_aparts, .ref aT_roots, .ref aT_firsts, .ref aT_seconds, .ref aT_parts, .ref aT_firstSides, .ref aT_otherSides, .ref aT_joinsAbove, .ref aT_pointsAbove, .ref aT_pairs, .ref aT_links, .ref aT_nodes])), (aT_points, .inr (4, [.int T_points_count, .ref aT_points_xs, .ref aT_points_ys, .ref aT_points_ws])), (aT_keys, .inl (cJ, 24, .inr (.inl T_keys_40))), (aT_links, .inl (cJ, 24, .inr (.inl T_links_40))), (aT_points_xs, .inl (cI, 24, .inl T_points_xs)), (aT_points_ys, .inl (cI, 24, .inl T_points_ys))]) rfl rfl ?_
        exact hR40 (T_count_40, T_keys_40, T_links_40) _ _ (hr40 _ (Option.some.inj hm).symm) dX2_growTree_62
  refine r_lv [2, 1, 0] (lv' := [(0, .ref aT), (1, .int (1 : Int32)), (2, .int (1 : Int32))]) rfl ?_
  refine loopG (r0 := q1) (Gd := fun s9 => G X 9 [(0, .ref aT), (1, .int (1 : Int32)), (2, .int s9.1)] [] [(aT, .inr (2, [.ref aT_points, .int (0 : Int32), .ref aT_keys, .ref aT_aparts, .ref aT_roots, .ref aT_firsts, .ref aT_seconds, .ref aT_parts, .ref aT_firstSides, .ref aT_otherSides, .ref aT_joinsAbove, .ref aT_pointsAbove, .ref aT_pairs, .ref aT_links, .ref aT_nodes])), (aT_points, .inr (4, [.int T_points_count, .ref aT_points_xs, .ref aT_points_ys, .ref aT_points_ws])), (aT_keys, .inl (cJ, 24, .inr (.inl T_keys))), (aT_links, .inl (cJ, 24, .inr (.inl s9.2))), (aT_points_xs, .inl (cI, 24, .inl T_points_xs)), (aT_points_ys, .inl (cI, 24, .inl T_points_ys))]) ?_ _ _ hl9
  rintro ⟨x2_9, T_links_9⟩ b9 hm hk9 hr9
  replace hm : mX2_growTree_b9 F T_points_count T_points_xs T_points_ys x2_9 T_links_9 = some b9 := hm
  unfold mX2_growTree_b9 at hm
  show G X 9 [(0, .ref aT), (1, .int (1 : Int32)), (2, .int x2_9)] [] [(aT, .inr (2, [.ref aT_points, .int (0 : Int32), .ref aT_keys, .ref aT_aparts, .ref aT_roots, .ref aT_firsts, .ref aT_seconds, .ref aT_parts, .ref aT_firstSides, .ref aT_otherSides, .ref aT_joinsAbove, .ref aT_pointsAbove, .ref aT_pairs, .ref aT_links, .ref aT_nodes])), (aT_points, .inr (4, [.int T_points_count, .ref aT_points_xs, .ref aT_points_ys, .ref aT_points_ws])), (aT_keys, .inl (cJ, 24, .inr (.inl T_keys))), (aT_links, .inl (cJ, 24, .inr (.inl T_links_9))), (aT_points_xs, .inl (cI, 24, .inl T_points_xs)), (aT_points_ys, .inl (cI, 24, .inl T_points_ys))]
  refine r_iload_n S dX2_growTree_9 rfl 2 rfl ?_
  refine r_aload_n S dX2_growTree_10 rfl 0 rfl ?_
  refine r_get (T := TX2) (ci := 2) S (tlA inlX2) rfl 0 rfl 0 (Nat.le_of_ble_eq_true rfl) (tl u47) rfl dX2_growTree_11 ?_
  refine r_get (T := TX4) (ci := 4) S (tlA inlX4) rfl 1 rfl 0 (Nat.le_of_ble_eq_true rfl) (tl u165) rfl dX2_growTree_14 ?_
  refine r_icmp_ge 38 S dX2_growTree_17 (by decide) (fun c2 => ?_) (fun c2 => ?_)
  · replace hm := iT c2 hm
    refine r_lv [0, 1] (lv' := [(0, .ref aT), (1, .int (1 : Int32))]) rfl ?_
    exact hE9_38 T_links_9 (hr9 _ (Option.some.inj hm).symm)
  · replace hm := iF c2 hm
    refine r_aload_n S dX2_growTree_20 rfl 0 rfl ?_
    refine r_get (T := TX2) (ci := 2) S (tlA inlX2) rfl 0 rfl 13 (Nat.le_of_ble_eq_true rfl) (tl u61) rfl dX2_growTree_21 ?_
    refine r_iload_n S dX2_growTree_24 rfl 2 rfl ?_
    refine r_aload_n S dX2_growTree_25 rfl 0 rfl ?_
    refine r_iconst (v := (0 : Int32)) S dX2_growTree_26 rfl ?_
    refine r_iload_n S dX2_growTree_27 rfl 2 rfl ?_
    obtain ⟨r3, h_r3, hm⟩ := bS hm
    refine r_calllV S (c_X2_keyOf l0 D0 cI cJ cZ cY F aT aT_points aT_keys aT_aparts aT_roots aT_firsts aT_seconds aT_parts aT_firstSides aT_otherSides aT_joinsAbove aT_pointsAbove aT_pairs aT_links aT_nodes aT_points_xs aT_points_ys aT_points_ws (0 : Int32) T_points_count T_points_xs T_points_ys (0 : Int32) x2_9 _ h_r3) (gV u174 u175 u176 u11 u177) ok_X2_keyOf ⟨rfl, rfl⟩ ⟨Nat.le_of_ble_eq_true rfl, Nat.le_of_ble_eq_true rfl⟩ [0, 1, 4, 5] [2, 3] rfl (wr := [(aT_keys, .inl (cJ, 24, .inr (.inl T_keys))), (aT_links, .inl (cJ, 24, .inr (.inl T_links_9)))]) rfl rfl rfl (by decide) (ci := 2) (T := TX2) 0 rfl rfl (ws' := [(aT_keys, .inl (cJ, 24, .inr (.inl T_keys))), (aT_links, .inl (cJ, 24, .inr (.inl T_links_9))), (aT, .inr (2, [.ref aT_points, .int (0 : Int32), .ref aT_keys, .ref aT_aparts, .ref aT_roots, .ref aT_firsts, .ref aT_seconds, .ref aT_parts, .ref aT_firstSides, .ref aT_otherSides, .ref aT_joinsAbove, .ref aT_pointsAbove, .ref aT_pairs, .ref aT_links, .ref aT_nodes])), (aT_points, .inr (4, [.int T_points_count, .ref aT_points_xs, .ref aT_points_ys, .ref aT_points_ws])), (aT_points_xs, .inl (cI, 24, .inl T_points_xs)), (aT_points_ys, .inl (cI, 24, .inl T_points_ys))]) rfl (As := [.int (0 : Int32), .int x2_9]) (rest := [.int x2_9, .ref aT_links]) rfl rfl (Nat.le_of_ble_eq_true rfl) dX2_growTree_28 ?_
    obtain ⟨g4, h_g4, hm⟩ := bS hm
    refine r_last S h_g4 1 1 rfl rfl (ws' := [(aT_keys, .inl (cJ, 24, .inr (.inl T_keys))), (aT_links, .inl (cJ, 24, .inr (.inl g4))), (aT, .inr (2, [.ref aT_points, .int (0 : Int32), .ref aT_keys, .ref aT_aparts, .ref aT_roots, .ref aT_firsts, .ref aT_seconds, .ref aT_parts, .ref aT_firstSides, .ref aT_otherSides, .ref aT_joinsAbove, .ref aT_pointsAbove, .ref aT_pairs, .ref aT_links, .ref aT_nodes])), (aT_points, .inr (4, [.int T_points_count, .ref aT_points_xs, .ref aT_points_ys, .ref aT_points_ws])), (aT_points_xs, .inl (cI, 24, .inl T_points_xs)), (aT_points_ys, .inl (cI, 24, .inl T_points_ys))]) rfl dX2_growTree_31 ?_
    refine r_iincc S dX2_growTree_32 2 rfl (c0 := (1 : Int32)) rfl rfl (Nat.le_of_ble_eq_true rfl) (lv' := [(2, .int (x2_9 + (1 : Int32))), (0, .ref aT), (1, .int (1 : Int32))]) rfl ?_
    refine r_goto 9 S dX2_growTree_35 (by decide) ?_
    refine r_perm [2, 3, 0, 1, 4, 5] (ws' := [(aT, .inr (2, [.ref aT_points, .int (0 : Int32), .ref aT_keys, .ref aT_aparts, .ref aT_roots, .ref aT_firsts, .ref aT_seconds, .ref aT_parts, .ref aT_firstSides, .ref aT_otherSides, .ref aT_joinsAbove, .ref aT_pointsAbove, .ref aT_pairs, .ref aT_links, .ref aT_nodes])), (aT_points, .inr (4, [.int T_points_count, .ref aT_points_xs, .ref aT_points_ys, .ref aT_points_ws])), (aT_keys, .inl (cJ, 24, .inr (.inl T_keys))), (aT_links, .inl (cJ, 24, .inr (.inl g4))), (aT_points_xs, .inl (cI, 24, .inl T_points_xs)), (aT_points_ys, .inl (cI, 24, .inl T_points_ys))]) rfl rfl ?_
    refine r_lv [1, 2, 0] (lv' := [(0, .ref aT), (1, .int (1 : Int32)), (2, .int (x2_9 + (1 : Int32)))]) rfl ?_
    exact hk9 ((x2_9 + (1 : Int32)), g4) (Option.some.inj hm).symm
def wtX6_root : List Cond := Cond.code yX6_root cX6_root 4 (some .int) :: wsL_law
theorem ok_X6_root : CallOK yX6_root wtX6_root RX6 1 4 := ⟨⟨_, _, _, rfl⟩, rfl, ⟨by decide +kernel, by decide +kernel⟩, by decide +kernel⟩
set_option maxRecDepth 100000 in
set_option maxHeartbeats 4000000 in
theorem c_X6_root (l0 : Launch) (D0 : va_G) (cI cJ cZ cY : ClassId) (F : Nat) (x0 : Int32) (res : Int32) (hm : mX6_root F x0 = some res) : Ci D0 [(cI, .int), (cJ, .long), (cZ, .boolean), (cY, .array .int)] l0 yX6_root wtX6_root ({ frames := 0, cells := 0, slots := 0, locals := 0 }) [.int x0] (res) [] [] := by
  refine Ci.ofi cX6_root 4 (own := RX6) (by decide +kernel) rfl rfl (Nat.le_of_ble_eq_true rfl) ?_
  intro X S hR0
  have hR : ∀ (r9 : Int32) (pc : Nat) (lv : List (Nat × Value)), some r9 = some res → decode cX6_root pc = .ok (.ireturn, 1) → G X pc lv [.int (r9)] [] := fun r9 pc lv h9 hd => by cases h9; exact hR0 pc lv hd
  show G X 0 [(0, .int x0)] [] []
  unfold mX6_root at hm
  refine r_iconst (v := (0 : Int32)) S dX6_root_0 rfl ?_
  refine r_istore_n S dX6_root_1 rfl (Nat.le_of_ble_eq_true rfl) (lv' := [(1, .int (0 : Int32)), (0, .int x0)]) rfl ?_
  refine r_bipush (v := (10 : Int32)) S dX6_root_2 rfl ?_
  refine r_istore_n S dX6_root_4 rfl (Nat.le_of_ble_eq_true rfl) (lv' := [(2, .int (10 : Int32)), (1, .int (0 : Int32)), (0, .int x0)]) rfl ?_
  have hR5 : ∀ (r9 : Int32) (pc : Nat) (lv : List (Nat × Value)), r9 = res → decode cX6_root pc = .ok (.ireturn, 1) → G X pc lv [.int (r9)] [] := fun r9 pc lv h9 hd => hR r9 pc lv (congrArg some h9) hd
  refine r_lv [2, 1, 0] (lv' := [(0, .int x0), (1, .int (0 : Int32)), (2, .int (10 : Int32))]) rfl ?_
  refine loopG (r0 := res) (Gd := fun s9 => G X 5 [(0, .int x0), (1, .int s9.1), (2, .int s9.2)] [] []) ?_ _ _ hm
  rintro ⟨x1_5, x2_5⟩ b5 hm hk5 hr5
  replace hm : mX6_root_b5 F x0 x1_5 x2_5 = some b5 := hm
  unfold mX6_root_b5 at hm
  show G X 5 [(0, .int x0), (1, .int x1_5), (2, .int x2_5)] [] []
  refine r_iload_n S dX6_root_5 rfl 2 rfl ?_
  refine r_if_lt 30 S dX6_root_6 (by decide) (fun c2 => ?_) (fun c2 => ?_)
  · replace hm := iT c2 hm
    refine r_iload_n S dX6_root_30 rfl 1 rfl ?_
    exact hR5 x1_5 _ _ (hr5 _ (Option.some.inj hm).symm) dX6_root_31
  · replace hm := iF c2 hm
    refine r_iload_n S dX6_root_9 rfl 1 rfl ?_
    refine r_iconst (v := (1 : Int32)) S dX6_root_10 rfl ?_
    refine r_iload_n S dX6_root_11 rfl 2 rfl ?_
    refine r_ishl S dX6_root_12 ?_
    refine r_iadd S dX6_root_13 ?_
    obtain ⟨v3, h_v3, hm⟩ := bS hm
    refine r_topI h_v3 ?_
    refine r_istore_n S dX6_root_14 rfl (Nat.le_of_ble_eq_true rfl) (lv' := [(3, .int v3), (0, .int x0), (1, .int x1_5), (2, .int x2_5)]) rfl ?_
    refine r_iload_n S dX6_root_15 rfl 0 rfl ?_
    refine r_iload_n S dX6_root_16 rfl 0 rfl ?_
    refine r_imul S dX6_root_17 ?_
    refine r_iload_n S dX6_root_18 rfl 1 rfl ?_
    refine r_icmp_gt 24 S dX6_root_19 (by decide) (fun c4 => ?_) (fun c4 => ?_)
    · replace hm := iT c4 hm
      refine r_iincc S dX6_root_24 3 rfl (c0 := (-1 : Int32)) rfl rfl (Nat.le_of_ble_eq_true rfl) (lv' := [(2, .int (x2_5 + (-1 : Int32))), (3, .int v3), (0, .int x0), (1, .int x1_5)]) rfl ?_
      refine r_goto 5 S dX6_root_27 (by decide) ?_
      refine r_lv [2, 3, 0] (lv' := [(0, .int x0), (1, .int x1_5), (2, .int (x2_5 + (-1 : Int32)))]) rfl ?_
      exact hk5 (x1_5, (x2_5 + (-1 : Int32))) (Option.some.inj hm).symm
    · replace hm := iF c4 hm
      refine r_iload_n S dX6_root_22 rfl 0 rfl ?_
      refine r_istore_n S dX6_root_23 rfl (Nat.le_of_ble_eq_true rfl) (lv' := [(1, .int v3), (3, .int v3), (0, .int x0), (2, .int x2_5)]) rfl ?_
      refine r_iincc S dX6_root_24 3 rfl (c0 := (-1 : Int32)) rfl rfl (Nat.le_of_ble_eq_true rfl) (lv' := [(2, .int (x2_5 + (-1 : Int32))), (1, .int v3), (3, .int v3), (0, .int x0)]) rfl ?_
      refine r_goto 5 S dX6_root_27 (by decide) ?_
      refine r_lv [3, 1, 0] (lv' := [(0, .int x0), (1, .int v3), (2, .int (x2_5 + (-1 : Int32)))]) rfl ?_
      exact hk5 (v3, (x2_5 + (-1 : Int32))) (Option.some.inj hm).symm
def wtX2_placeOf : List Cond := Cond.code yX2_placeOf cX2_placeOf 2 (some .long) :: wsL_law
theorem ok_X2_placeOf : CallOK yX2_placeOf wtX2_placeOf RX2 1 2 := ⟨⟨_, _, _, rfl⟩, rfl, ⟨by decide +kernel, by decide +kernel⟩, by decide +kernel⟩
set_option maxRecDepth 100000 in
set_option maxHeartbeats 4000000 in
theorem c_X2_placeOf (l0 : Launch) (D0 : va_G) (cI cJ cZ cY : ClassId) (F : Nat) (aT aT_points aT_keys aT_aparts aT_roots aT_firsts aT_seconds aT_parts aT_firstSides aT_otherSides aT_joinsAbove aT_pointsAbove aT_pairs aT_links aT_nodes aT_points_xs aT_points_ys aT_points_ws : Nat) (T_count : Int32) (T_points_count : Int32) (T_points_xs : Nat → Int32) (T_points_ys : Nat → Int32) (x1 : Int32) (res : Int64) (hm : mX2_placeOf F x1 T_points_xs T_points_ys = some res) : Cl D0 [(cI, .int), (cJ, .long), (cZ, .boolean), (cY, .array .int)] l0 yX2_placeOf wtX2_placeOf ({ frames := 0, cells := 0, slots := 0, locals := 0 }) [.ref aT, .int x1] (res) [(aT, .inr (2, [.ref aT_points, .int T_count, .ref aT_keys, .ref aT_aparts, .ref aT_roots, .ref aT_firsts, .ref aT_seconds, .ref aT_parts, .ref aT_firstSides, .ref aT_otherSides, .ref aT_joinsAbove, .ref aT_pointsAbove, .ref aT_pairs, .ref aT_links, .ref aT_nodes])), (aT_points, .inr (4, [.int T_points_count, .ref aT_points_xs, .ref aT_points_ys, .ref aT_points_ws])), (aT_points_xs, .inl (cI, 24, .inl T_points_xs)), (aT_points_ys, .inl (cI, 24, .inl T_points_ys))] [(aT, .inr (2, [.ref aT_points, .int T_count, .ref aT_keys, .ref aT_aparts, .ref aT_roots, .ref aT_firsts, .ref aT_seconds, .ref aT_parts, .ref aT_firstSides, .ref aT_otherSides, .ref aT_joinsAbove, .ref aT_pointsAbove, .ref aT_pairs, .ref aT_links, .ref aT_nodes])), (aT_points, .inr (4, [.int T_points_count, .ref aT_points_xs, .ref aT_points_ys, .ref aT_points_ws])), (aT_points_xs, .inl (cI, 24, .inl T_points_xs)), (aT_points_ys, .inl (cI, 24, .inl T_points_ys))] := by
  refine Cl.ofl cX2_placeOf 2 (own := RX2) (by decide +kernel) rfl rfl (Nat.le_of_ble_eq_true rfl) ?_
  intro X S hR0
  have hR : ∀ (r9 : Int64) (pc : Nat) (lv : List (Nat × Value)), some r9 = some res → decode cX2_placeOf pc = .ok (.lreturn, 1) → G X pc lv [.long (r9)] [(aT, .inr (2, [.ref aT_points, .int T_count, .ref aT_keys, .ref aT_aparts, .ref aT_roots, .ref aT_firsts, .ref aT_seconds, .ref aT_parts, .ref aT_firstSides, .ref aT_otherSides, .ref aT_joinsAbove, .ref aT_pointsAbove, .ref aT_pairs, .ref aT_links, .ref aT_nodes])), (aT_points, .inr (4, [.int T_points_count, .ref aT_points_xs, .ref aT_points_ys, .ref aT_points_ws])), (aT_points_xs, .inl (cI, 24, .inl T_points_xs)), (aT_points_ys, .inl (cI, 24, .inl T_points_ys))] := fun r9 pc lv h9 hd => by cases h9; exact hR0 pc lv hd
  show G X 0 [(0, .ref aT), (1, .int x1)] [] [(aT, .inr (2, [.ref aT_points, .int T_count, .ref aT_keys, .ref aT_aparts, .ref aT_roots, .ref aT_firsts, .ref aT_seconds, .ref aT_parts, .ref aT_firstSides, .ref aT_otherSides, .ref aT_joinsAbove, .ref aT_pointsAbove, .ref aT_pairs, .ref aT_links, .ref aT_nodes])), (aT_points, .inr (4, [.int T_points_count, .ref aT_points_xs, .ref aT_points_ys, .ref aT_points_ws])), (aT_points_xs, .inl (cI, 24, .inl T_points_xs)), (aT_points_ys, .inl (cI, 24, .inl T_points_ys))]
  unfold mX2_placeOf at hm
  refine r_aload_n S dX2_placeOf_0 rfl 0 rfl ?_
  refine r_get (T := TX2) (ci := 2) S (tlA inlX2) rfl 0 rfl 0 (Nat.le_of_ble_eq_true rfl) (tl u47) rfl dX2_placeOf_1 ?_
  refine r_get (T := TX4) (ci := 4) S (tlA inlX4) rfl 1 rfl 1 (Nat.le_of_ble_eq_true rfl) (tl u216) rfl dX2_placeOf_4 ?_
  refine r_iload_n S dX2_placeOf_7 rfl 1 rfl ?_
  obtain ⟨v1, h_v1, hm⟩ := bS hm
  refine r_iald S h_v1 2 0 rfl rfl dX2_placeOf_8 ?_
  refine r_i2l S dX2_placeOf_9 ?_
  refine r_bipush (v := (10 : Int32)) S dX2_placeOf_10 rfl ?_
  refine r_lshl S dX2_placeOf_12 ?_
  refine r_aload_n S dX2_placeOf_13 rfl 0 rfl ?_
  refine r_get (T := TX2) (ci := 2) S (tlA inlX2) rfl 0 rfl 0 (Nat.le_of_ble_eq_true rfl) (tl u47) rfl dX2_placeOf_14 ?_
  refine r_get (T := TX4) (ci := 4) S (tlA inlX4) rfl 1 rfl 2 (Nat.le_of_ble_eq_true rfl) (tl u217) rfl dX2_placeOf_17 ?_
  refine r_iload_n S dX2_placeOf_20 rfl 1 rfl ?_
  obtain ⟨v2, h_v2, hm⟩ := bS hm
  refine r_iald S h_v2 3 0 rfl rfl dX2_placeOf_21 ?_
  refine r_i2l S dX2_placeOf_22 ?_
  refine r_lor S dX2_placeOf_23 ?_
  exact hR (((v1).toInt64 <<< (((10 : Int32)).toInt64 &&& 63)) ||| (v2).toInt64) _ _ hm dX2_placeOf_24
def wtX2_joinOf : List Cond := Cond.code yX2_joinOf cX2_joinOf 1 (some .int) :: wsL_law
theorem ok_X2_joinOf : CallOK yX2_joinOf wtX2_joinOf RX2 1 1 := ⟨⟨_, _, _, rfl⟩, rfl, ⟨by decide +kernel, by decide +kernel⟩, by decide +kernel⟩
set_option maxRecDepth 100000 in
set_option maxHeartbeats 4000000 in
theorem c_X2_joinOf (l0 : Launch) (D0 : va_G) (cI cJ cZ cY : ClassId) (F : Nat) (x0 : Int32) (res : Int32) (hm : mX2_joinOf F x0 = some res) : Ci D0 [(cI, .int), (cJ, .long), (cZ, .boolean), (cY, .array .int)] l0 yX2_joinOf wtX2_joinOf ({ frames := 0, cells := 0, slots := 0, locals := 0 }) [.int x0] (res) [] [] := by
  refine Ci.ofi cX2_joinOf 1 (own := RX2) (by decide +kernel) rfl rfl (Nat.le_of_ble_eq_true rfl) ?_
  intro X S hR0
  have hR : ∀ (r9 : Int32) (pc : Nat) (lv : List (Nat × Value)), some r9 = some res → decode cX2_joinOf pc = .ok (.ireturn, 1) → G X pc lv [.int (r9)] [] := fun r9 pc lv h9 hd => by cases h9; exact hR0 pc lv hd
  show G X 0 [(0, .int x0)] [] []
  unfold mX2_joinOf at hm
  refine r_iload_n S dX2_joinOf_0 rfl 0 rfl ?_
  refine r_bipush (v := (100 : Int32)) S dX2_joinOf_1 rfl ?_
  refine r_icmp_lt 19 S dX2_joinOf_3 (by decide) (fun c1 => ?_) (fun c1 => ?_)
  · replace hm := iT c1 hm
    refine r_iconst (v := (-1 : Int32)) S dX2_joinOf_19 rfl ?_
    exact hR (-1 : Int32) _ _ hm dX2_joinOf_20
  · replace hm := iF c1 hm
    refine r_iload_n S dX2_joinOf_6 rfl 0 rfl ?_
    refine r_bipush (v := (124 : Int32)) S dX2_joinOf_7 rfl ?_
    refine r_icmp_ge 19 S dX2_joinOf_9 (by decide) (fun c2 => ?_) (fun c2 => ?_)
    · replace hm := iT c2 hm
      refine r_iconst (v := (-1 : Int32)) S dX2_joinOf_19 rfl ?_
      exact hR (-1 : Int32) _ _ hm dX2_joinOf_20
    · replace hm := iF c2 hm
      refine r_iload_n S dX2_joinOf_12 rfl 0 rfl ?_
      refine r_bipush (v := (100 : Int32)) S dX2_joinOf_13 rfl ?_
      refine r_isub S dX2_joinOf_15 ?_
      refine r_goto 20 S dX2_joinOf_16 (by decide) ?_
      exact hR (x0 - (100 : Int32)) _ _ hm dX2_joinOf_20
def wtX2_setOf : List Cond := Cond.code yX2_setOf cX2_setOf 3 (some .int) :: wsL_law
theorem ok_X2_setOf : CallOK yX2_setOf wtX2_setOf RX2 1 3 := ⟨⟨_, _, _, rfl⟩, rfl, ⟨by decide +kernel, by decide +kernel⟩, by decide +kernel⟩
set_option maxRecDepth 100000 in
set_option maxHeartbeats 4000000 in
theorem c_X2_setOf (l0 : Launch) (D0 : va_G) (cI cJ cZ cY : ClassId) (F : Nat) (aT aT_points aT_keys aT_aparts aT_roots aT_firsts aT_seconds aT_parts aT_firstSides aT_otherSides aT_joinsAbove aT_pointsAbove aT_pairs aT_links aT_nodes : Nat) (T_count : Int32) (T_parts : Nat → Int32) (x1 : Int32) (res : Int32) (hm : mX2_setOf F x1 T_parts = some res) : Ci D0 [(cI, .int), (cJ, .long), (cZ, .boolean), (cY, .array .int)] l0 yX2_setOf wtX2_setOf ({ frames := 1, cells := 0, slots := 0, locals := 20 }) [.ref aT, .int x1] (res) [(aT, .inr (2, [.ref aT_points, .int T_count, .ref aT_keys, .ref aT_aparts, .ref aT_roots, .ref aT_firsts, .ref aT_seconds, .ref aT_parts, .ref aT_firstSides, .ref aT_otherSides, .ref aT_joinsAbove, .ref aT_pointsAbove, .ref aT_pairs, .ref aT_links, .ref aT_nodes])), (aT_parts, .inl (cI, 24, .inl T_parts))] [(aT, .inr (2, [.ref aT_points, .int T_count, .ref aT_keys, .ref aT_aparts, .ref aT_roots, .ref aT_firsts, .ref aT_seconds, .ref aT_parts, .ref aT_firstSides, .ref aT_otherSides, .ref aT_joinsAbove, .ref aT_pointsAbove, .ref aT_pairs, .ref aT_links, .ref aT_nodes])), (aT_parts, .inl (cI, 24, .inl T_parts))] := by
  refine Ci.ofi cX2_setOf 3 (own := RX2) (by decide +kernel) rfl rfl (Nat.le_of_ble_eq_true rfl) ?_
  intro X S hR0
  have hR : ∀ (r9 : Int32) (pc : Nat) (lv : List (Nat × Value)), some r9 = some res → decode cX2_setOf pc = .ok (.ireturn, 1) → G X pc lv [.int (r9)] [(aT, .inr (2, [.ref aT_points, .int T_count, .ref aT_keys, .ref aT_aparts, .ref aT_roots, .ref aT_firsts, .ref aT_seconds, .ref aT_parts, .ref aT_firstSides, .ref aT_otherSides, .ref aT_joinsAbove, .ref aT_pointsAbove, .ref aT_pairs, .ref aT_links, .ref aT_nodes])), (aT_parts, .inl (cI, 24, .inl T_parts))] := fun r9 pc lv h9 hd => by cases h9; exact hR0 pc lv hd
  show G X 0 [(0, .ref aT), (1, .int x1)] [] [(aT, .inr (2, [.ref aT_points, .int T_count, .ref aT_keys, .ref aT_aparts, .ref aT_roots, .ref aT_firsts, .ref aT_seconds, .ref aT_parts, .ref aT_firstSides, .ref aT_otherSides, .ref aT_joinsAbove, .ref aT_pointsAbove, .ref aT_pairs, .ref aT_links, .ref aT_nodes])), (aT_parts, .inl (cI, 24, .inl T_parts))]
  unfold mX2_setOf at hm
  refine r_iload_n S dX2_setOf_0 rfl 1 rfl ?_
  obtain ⟨r1, h_r1, hm⟩ := bS hm
  refine r_calliS S (c_X2_joinOf l0 D0 cI cJ cZ cY F x1 _ h_r1) (gS u222 u223 u11 u224) ok_X2_joinOf ⟨rfl, rfl⟩ ⟨Nat.le_of_ble_eq_true rfl, Nat.le_of_ble_eq_true rfl⟩ [] [0, 1] rfl (wr := [(aT, .inr (2, [.ref aT_points, .int T_count, .ref aT_keys, .ref aT_aparts, .ref aT_roots, .ref aT_firsts, .ref aT_seconds, .ref aT_parts, .ref aT_firstSides, .ref aT_otherSides, .ref aT_joinsAbove, .ref aT_pointsAbove, .ref aT_pairs, .ref aT_links, .ref aT_nodes])), (aT_parts, .inl (cI, 24, .inl T_parts))]) rfl rfl rfl (by decide) (ws' := [(aT, .inr (2, [.ref aT_points, .int T_count, .ref aT_keys, .ref aT_aparts, .ref aT_roots, .ref aT_firsts, .ref aT_seconds, .ref aT_parts, .ref aT_firstSides, .ref aT_otherSides, .ref aT_joinsAbove, .ref aT_pointsAbove, .ref aT_pairs, .ref aT_links, .ref aT_nodes])), (aT_parts, .inl (cI, 24, .inl T_parts))]) rfl (As := [.int x1]) (rest := []) rfl rfl (Nat.le_of_ble_eq_true rfl) dX2_setOf_1 ?_
  refine r_istore_n S dX2_setOf_4 rfl (Nat.le_of_ble_eq_true rfl) (lv' := [(2, .int r1), (0, .ref aT), (1, .int x1)]) rfl ?_
  refine r_iload_n S dX2_setOf_5 rfl 0 rfl ?_
  refine r_iconst (v := (-1 : Int32)) S dX2_setOf_6 rfl ?_
  refine r_icmp_eq 19 S dX2_setOf_7 (by decide) (fun c2 => ?_) (fun c2 => ?_)
  · replace hm := iT c2 hm
    refine r_iconst (v := (1 : Int32)) S dX2_setOf_19 rfl ?_
    refine r_iload_n S dX2_setOf_20 rfl 2 rfl ?_
    refine r_ishl S dX2_setOf_21 ?_
    exact hR ((1 : Int32) <<< (x1 &&& 31)) _ _ hm dX2_setOf_22
  · replace hm := iF c2 hm
    refine r_aload_n S dX2_setOf_10 rfl 1 rfl ?_
    refine r_get (T := TX2) (ci := 2) S (tlA inlX2) rfl 0 rfl 7 (Nat.le_of_ble_eq_true rfl) (tl u55) rfl dX2_setOf_11 ?_
    refine r_iload_n S dX2_setOf_14 rfl 0 rfl ?_
    obtain ⟨v3, h_v3, hm⟩ := bS hm
    refine r_iald S h_v3 1 0 rfl rfl dX2_setOf_15 ?_
    refine r_goto 22 S dX2_setOf_16 (by decide) ?_
    exact hR v3 _ _ hm dX2_setOf_22
def wtX2_putBelow : List Cond := Cond.code yX2_putBelow cX2_putBelow 4 none :: wsL_law
theorem ok_X2_putBelow : CallOK yX2_putBelow wtX2_putBelow RX2 2 4 := ⟨⟨_, _, _, rfl⟩, rfl, ⟨by decide +kernel, by decide +kernel⟩, by decide +kernel⟩
set_option maxRecDepth 100000 in
set_option maxHeartbeats 4000000 in
theorem c_X2_putBelow (l0 : Launch) (D0 : va_G) (cI cJ cZ cY : ClassId) (F : Nat) (aT aT_points aT_keys aT_aparts aT_roots aT_firsts aT_seconds aT_parts aT_firstSides aT_otherSides aT_joinsAbove aT_pointsAbove aT_pairs aT_links aT_nodes : Nat) (T_count : Int32) (T_joinsAbove : Nat → Int32) (T_pointsAbove : Nat → Int32) (x1 : Int32) (x2 : Int32) (res : (Nat → Int32) × (Nat → Int32)) (hm : mX2_putBelow F x1 x2 T_joinsAbove T_pointsAbove = some res) : Cv D0 [(cI, .int), (cJ, .long), (cZ, .boolean), (cY, .array .int)] l0 yX2_putBelow wtX2_putBelow ({ frames := 1, cells := 0, slots := 0, locals := 20 }) [.ref aT, .int x1, .int x2] [(aT, .inr (2, [.ref aT_points, .int T_count, .ref aT_keys, .ref aT_aparts, .ref aT_roots, .ref aT_firsts, .ref aT_seconds, .ref aT_parts, .ref aT_firstSides, .ref aT_otherSides, .ref aT_joinsAbove, .ref aT_pointsAbove, .ref aT_pairs, .ref aT_links, .ref aT_nodes])), (aT_joinsAbove, .inl (cI, 24, .inl T_joinsAbove)), (aT_pointsAbove, .inl (cI, 24, .inl T_pointsAbove))] [(aT, .inr (2, [.ref aT_points, .int T_count, .ref aT_keys, .ref aT_aparts, .ref aT_roots, .ref aT_firsts, .ref aT_seconds, .ref aT_parts, .ref aT_firstSides, .ref aT_otherSides, .ref aT_joinsAbove, .ref aT_pointsAbove, .ref aT_pairs, .ref aT_links, .ref aT_nodes])), (aT_joinsAbove, .inl (cI, 24, .inl (res.1))), (aT_pointsAbove, .inl (cI, 24, .inl (res.2)))] := by
  refine Cv.ofv cX2_putBelow 4 (own := RX2) (by decide +kernel) rfl rfl (Nat.le_of_ble_eq_true rfl) ?_
  intro X S hR0
  have hR : ∀ (r9 : (Nat → Int32) × (Nat → Int32)) (pc : Nat) (lv : List (Nat × Value)), some r9 = some res → decode cX2_putBelow pc = .ok (.return_, 1) → G X pc lv [] [(aT, .inr (2, [.ref aT_points, .int T_count, .ref aT_keys, .ref aT_aparts, .ref aT_roots, .ref aT_firsts, .ref aT_seconds, .ref aT_parts, .ref aT_firstSides, .ref aT_otherSides, .ref aT_joinsAbove, .ref aT_pointsAbove, .ref aT_pairs, .ref aT_links, .ref aT_nodes])), (aT_joinsAbove, .inl (cI, 24, .inl (r9.1))), (aT_pointsAbove, .inl (cI, 24, .inl (r9.2)))] := fun r9 pc lv h9 hd => by cases h9; exact hR0 pc lv hd
  show G X 0 [(0, .ref aT), (1, .int x1), (2, .int x2)] [] [(aT, .inr (2, [.ref aT_points, .int T_count, .ref aT_keys, .ref aT_aparts, .ref aT_roots, .ref aT_firsts, .ref aT_seconds, .ref aT_parts, .ref aT_firstSides, .ref aT_otherSides, .ref aT_joinsAbove, .ref aT_pointsAbove, .ref aT_pairs, .ref aT_links, .ref aT_nodes])), (aT_joinsAbove, .inl (cI, 24, .inl T_joinsAbove)), (aT_pointsAbove, .inl (cI, 24, .inl T_pointsAbove))]
  unfold mX2_putBelow at hm
  refine r_iload_n S dX2_putBelow_0 rfl 1 rfl ?_
  obtain ⟨r1, h_r1, hm⟩ := bS hm
  refine r_calliS S (c_X2_joinOf l0 D0 cI cJ cZ cY F x1 _ h_r1) (gS u222 u223 u11 u224) ok_X2_joinOf ⟨rfl, rfl⟩ ⟨Nat.le_of_ble_eq_true rfl, Nat.le_of_ble_eq_true rfl⟩ [] [0, 1, 2] rfl (wr := [(aT, .inr (2, [.ref aT_points, .int T_count, .ref aT_keys, .ref aT_aparts, .ref aT_roots, .ref aT_firsts, .ref aT_seconds, .ref aT_parts, .ref aT_firstSides, .ref aT_otherSides, .ref aT_joinsAbove, .ref aT_pointsAbove, .ref aT_pairs, .ref aT_links, .ref aT_nodes])), (aT_joinsAbove, .inl (cI, 24, .inl T_joinsAbove)), (aT_pointsAbove, .inl (cI, 24, .inl T_pointsAbove))]) rfl rfl rfl (by decide) (ws' := [(aT, .inr (2, [.ref aT_points, .int T_count, .ref aT_keys, .ref aT_aparts, .ref aT_roots, .ref aT_firsts, .ref aT_seconds, .ref aT_parts, .ref aT_firstSides, .ref aT_otherSides, .ref aT_joinsAbove, .ref aT_pointsAbove, .ref aT_pairs, .ref aT_links, .ref aT_nodes])), (aT_joinsAbove, .inl (cI, 24, .inl T_joinsAbove)), (aT_pointsAbove, .inl (cI, 24, .inl T_pointsAbove))]) rfl (As := [.int x1]) (rest := []) rfl rfl (Nat.le_of_ble_eq_true rfl) dX2_putBelow_1 ?_
  refine r_istore_n S dX2_putBelow_4 rfl (Nat.le_of_ble_eq_true rfl) (lv' := [(3, .int r1), (0, .ref aT), (1, .int x1), (2, .int x2)]) rfl ?_
  refine r_iload_n S dX2_putBelow_5 rfl 0 rfl ?_
  refine r_iconst (v := (-1 : Int32)) S dX2_putBelow_6 rfl ?_
  refine r_icmp_eq 20 S dX2_putBelow_7 (by decide) (fun c2 => ?_) (fun c2 => ?_)
  · replace hm := iT c2 hm
    refine r_iload_n S dX2_putBelow_20 rfl 2 rfl ?_
    refine r_if_lt 37 S dX2_putBelow_21 (by decide) (fun c3 => ?_) (fun c3 => ?_)
    · replace hm := iT c3 hm
      exact hR (T_joinsAbove, T_pointsAbove) _ _ hm dX2_putBelow_37
    · replace hm := iF c3 hm
      refine r_iload_n S dX2_putBelow_24 rfl 2 rfl ?_
      refine r_bipush (v := (24 : Int32)) S dX2_putBelow_25 rfl ?_
      refine r_icmp_ge 37 S dX2_putBelow_27 (by decide) (fun c4 => ?_) (fun c4 => ?_)
      · replace hm := iT c4 hm
        exact hR (T_joinsAbove, T_pointsAbove) _ _ hm dX2_putBelow_37
      · replace hm := iF c4 hm
        refine r_aload_n S dX2_putBelow_30 rfl 1 rfl ?_
        refine r_get (T := TX2) (ci := 2) S (tlA inlX2) rfl 0 rfl 11 (Nat.le_of_ble_eq_true rfl) (tl u59) rfl dX2_putBelow_31 ?_
        refine r_iload_n S dX2_putBelow_34 rfl 2 rfl ?_
        refine r_iload_n S dX2_putBelow_35 rfl 3 rfl ?_
        obtain ⟨g5, h_g5, hm⟩ := bS hm
        refine r_iast S h_g5 2 0 rfl rfl (ws' := [(aT, .inr (2, [.ref aT_points, .int T_count, .ref aT_keys, .ref aT_aparts, .ref aT_roots, .ref aT_firsts, .ref aT_seconds, .ref aT_parts, .ref aT_firstSides, .ref aT_otherSides, .ref aT_joinsAbove, .ref aT_pointsAbove, .ref aT_pairs, .ref aT_links, .ref aT_nodes])), (aT_joinsAbove, .inl (cI, 24, .inl T_joinsAbove)), (aT_pointsAbove, .inl (cI, 24, .inl g5))]) rfl dX2_putBelow_36 ?_
        exact hR (T_joinsAbove, g5) _ _ hm dX2_putBelow_37
  · replace hm := iF c2 hm
    refine r_aload_n S dX2_putBelow_10 rfl 1 rfl ?_
    refine r_get (T := TX2) (ci := 2) S (tlA inlX2) rfl 0 rfl 10 (Nat.le_of_ble_eq_true rfl) (tl u58) rfl dX2_putBelow_11 ?_
    refine r_iload_n S dX2_putBelow_14 rfl 0 rfl ?_
    refine r_iload_n S dX2_putBelow_15 rfl 3 rfl ?_
    obtain ⟨g6, h_g6, hm⟩ := bS hm
    refine r_iast S h_g6 1 0 rfl rfl (ws' := [(aT, .inr (2, [.ref aT_points, .int T_count, .ref aT_keys, .ref aT_aparts, .ref aT_roots, .ref aT_firsts, .ref aT_seconds, .ref aT_parts, .ref aT_firstSides, .ref aT_otherSides, .ref aT_joinsAbove, .ref aT_pointsAbove, .ref aT_pairs, .ref aT_links, .ref aT_nodes])), (aT_joinsAbove, .inl (cI, 24, .inl g6)), (aT_pointsAbove, .inl (cI, 24, .inl T_pointsAbove))]) rfl dX2_putBelow_16 ?_
    refine r_goto 37 S dX2_putBelow_17 (by decide) ?_
    exact hR (g6, T_pointsAbove) _ _ hm dX2_putBelow_37
def wtX2_makeJoin : List Cond := Cond.code yX2_makeJoin cX2_makeJoin 5 none :: wsL_law
theorem ok_X2_makeJoin : CallOK yX2_makeJoin wtX2_makeJoin RX2 1 5 := ⟨⟨_, _, _, rfl⟩, rfl, ⟨by decide +kernel, by decide +kernel⟩, by decide +kernel⟩
set_option maxRecDepth 100000 in
set_option maxHeartbeats 4000000 in
theorem c_X2_makeJoin (l0 : Launch) (D0 : va_G) (cI cJ cZ cY : ClassId) (F : Nat) (aT aT_points aT_keys aT_aparts aT_roots aT_firsts aT_seconds aT_parts aT_firstSides aT_otherSides aT_joinsAbove aT_pointsAbove aT_pairs aT_links aT_nodes aT_points_xs aT_points_ys aT_points_ws : Nat) (T_count : Int32) (T_points_count : Int32) (T_aparts : Nat → Int32) (T_firstSides : Nat → Int32) (T_firsts : Nat → Int32) (T_joinsAbove : Nat → Int32) (T_keys : Nat → Int64) (T_nodes : Nat → Int32) (T_otherSides : Nat → Int32) (T_pairs : Nat → Int64) (T_parts : Nat → Int32) (T_points_xs : Nat → Int32) (T_points_ys : Nat → Int32) (T_pointsAbove : Nat → Int32) (T_roots : Nat → Int32) (T_seconds : Nat → Int32) (x1 : Int32) (res : (Nat → Int32) × (Nat → Int32) × (Nat → Int32) × (Nat → Int32) × (Nat → Int32) × (Nat → Int32) × (Nat → Int64) × (Nat → Int32) × (Nat → Int32) × (Nat → Int32) × (Nat → Int32)) (hm : mX2_makeJoin F x1 T_points_count T_aparts T_firstSides T_firsts T_joinsAbove T_keys T_nodes T_otherSides T_pairs T_parts T_points_xs T_points_ys T_pointsAbove T_roots T_seconds = some res) : Cv D0 [(cI, .int), (cJ, .long), (cZ, .boolean), (cY, .array .int)] l0 yX2_makeJoin wtX2_makeJoin ({ frames := 2, cells := 0, slots := 0, locals := 43 }) [.ref aT, .int x1] [(aT, .inr (2, [.ref aT_points, .int T_count, .ref aT_keys, .ref aT_aparts, .ref aT_roots, .ref aT_firsts, .ref aT_seconds, .ref aT_parts, .ref aT_firstSides, .ref aT_otherSides, .ref aT_joinsAbove, .ref aT_pointsAbove, .ref aT_pairs, .ref aT_links, .ref aT_nodes])), (aT_points, .inr (4, [.int T_points_count, .ref aT_points_xs, .ref aT_points_ys, .ref aT_points_ws])), (aT_aparts, .inl (cI, 24, .inl T_aparts)), (aT_firstSides, .inl (cI, 24, .inl T_firstSides)), (aT_firsts, .inl (cI, 24, .inl T_firsts)), (aT_joinsAbove, .inl (cI, 24, .inl T_joinsAbove)), (aT_keys, .inl (cJ, 24, .inr (.inl T_keys))), (aT_nodes, .inl (cI, 24, .inl T_nodes)), (aT_otherSides, .inl (cI, 24, .inl T_otherSides)), (aT_pairs, .inl (cJ, 24, .inr (.inl T_pairs))), (aT_parts, .inl (cI, 24, .inl T_parts)), (aT_points_xs, .inl (cI, 24, .inl T_points_xs)), (aT_points_ys, .inl (cI, 24, .inl T_points_ys)), (aT_pointsAbove, .inl (cI, 24, .inl T_pointsAbove)), (aT_roots, .inl (cI, 24, .inl T_roots)), (aT_seconds, .inl (cI, 24, .inl T_seconds))] [(aT, .inr (2, [.ref aT_points, .int T_count, .ref aT_keys, .ref aT_aparts, .ref aT_roots, .ref aT_firsts, .ref aT_seconds, .ref aT_parts, .ref aT_firstSides, .ref aT_otherSides, .ref aT_joinsAbove, .ref aT_pointsAbove, .ref aT_pairs, .ref aT_links, .ref aT_nodes])), (aT_points, .inr (4, [.int T_points_count, .ref aT_points_xs, .ref aT_points_ys, .ref aT_points_ws])), (aT_aparts, .inl (cI, 24, .inl (res.1))), (aT_firstSides, .inl (cI, 24, .inl (res.2.1))), (aT_firsts, .inl (cI, 24, .inl (res.2.2.1))), (aT_joinsAbove, .inl (cI, 24, .inl (res.2.2.2.1))), (aT_keys, .inl (cJ, 24, .inr (.inl T_keys))), (aT_nodes, .inl (cI, 24, .inl (res.2.2.2.2.1))), (aT_otherSides, .inl (cI, 24, .inl (res.2.2.2.2.2.1))), (aT_pairs, .inl (cJ, 24, .inr (.inl (res.2.2.2.2.2.2.1)))), (aT_parts, .inl (cI, 24, .inl (res.2.2.2.2.2.2.2.1))), (aT_points_xs, .inl (cI, 24, .inl T_points_xs)), (aT_points_ys, .inl (cI, 24, .inl T_points_ys)), (aT_pointsAbove, .inl (cI, 24, .inl (res.2.2.2.2.2.2.2.2.1))), (aT_roots, .inl (cI, 24, .inl (res.2.2.2.2.2.2.2.2.2.1))), (aT_seconds, .inl (cI, 24, .inl (res.2.2.2.2.2.2.2.2.2.2)))] := by
  refine Cv.ofv cX2_makeJoin 5 (own := RX2) (by decide +kernel) rfl rfl (Nat.le_of_ble_eq_true rfl) ?_
  intro X S hR0
  have hR : ∀ (r9 : (Nat → Int32) × (Nat → Int32) × (Nat → Int32) × (Nat → Int32) × (Nat → Int32) × (Nat → Int32) × (Nat → Int64) × (Nat → Int32) × (Nat → Int32) × (Nat → Int32) × (Nat → Int32)) (pc : Nat) (lv : List (Nat × Value)), some r9 = some res → decode cX2_makeJoin pc = .ok (.return_, 1) → G X pc lv [] [(aT, .inr (2, [.ref aT_points, .int T_count, .ref aT_keys, .ref aT_aparts, .ref aT_roots, .ref aT_firsts, .ref aT_seconds, .ref aT_parts, .ref aT_firstSides, .ref aT_otherSides, .ref aT_joinsAbove, .ref aT_pointsAbove, .ref aT_pairs, .ref aT_links, .ref aT_nodes])), (aT_points, .inr (4, [.int T_points_count, .ref aT_points_xs, .ref aT_points_ys, .ref aT_points_ws])), (aT_aparts, .inl (cI, 24, .inl (r9.1))), (aT_firstSides, .inl (cI, 24, .inl (r9.2.1))), (aT_firsts, .inl (cI, 24, .inl (r9.2.2.1))), (aT_joinsAbove, .inl (cI, 24, .inl (r9.2.2.2.1))), (aT_keys, .inl (cJ, 24, .inr (.inl T_keys))), (aT_nodes, .inl (cI, 24, .inl (r9.2.2.2.2.1))), (aT_otherSides, .inl (cI, 24, .inl (r9.2.2.2.2.2.1))), (aT_pairs, .inl (cJ, 24, .inr (.inl (r9.2.2.2.2.2.2.1)))), (aT_parts, .inl (cI, 24, .inl (r9.2.2.2.2.2.2.2.1))), (aT_points_xs, .inl (cI, 24, .inl T_points_xs)), (aT_points_ys, .inl (cI, 24, .inl T_points_ys)), (aT_pointsAbove, .inl (cI, 24, .inl (r9.2.2.2.2.2.2.2.2.1))), (aT_roots, .inl (cI, 24, .inl (r9.2.2.2.2.2.2.2.2.2.1))), (aT_seconds, .inl (cI, 24, .inl (r9.2.2.2.2.2.2.2.2.2.2)))] := fun r9 pc lv h9 hd => by cases h9; exact hR0 pc lv hd
  show G X 0 [(0, .ref aT), (1, .int x1)] [] [(aT, .inr (2, [.ref aT_points, .int T_count, .ref aT_keys, .ref aT_aparts, .ref aT_roots, .ref aT_firsts, .ref aT_seconds, .ref aT_parts, .ref aT_firstSides, .ref aT_otherSides, .ref aT_joinsAbove, .ref aT_pointsAbove, .ref aT_pairs, .ref aT_links, .ref aT_nodes])), (aT_points, .inr (4, [.int T_points_count, .ref aT_points_xs, .ref aT_points_ys, .ref aT_points_ws])), (aT_aparts, .inl (cI, 24, .inl T_aparts)), (aT_firstSides, .inl (cI, 24, .inl T_firstSides)), (aT_firsts, .inl (cI, 24, .inl T_firsts)), (aT_joinsAbove, .inl (cI, 24, .inl T_joinsAbove)), (aT_keys, .inl (cJ, 24, .inr (.inl T_keys))), (aT_nodes, .inl (cI, 24, .inl T_nodes)), (aT_otherSides, .inl (cI, 24, .inl T_otherSides)), (aT_pairs, .inl (cJ, 24, .inr (.inl T_pairs))), (aT_parts, .inl (cI, 24, .inl T_parts)), (aT_points_xs, .inl (cI, 24, .inl T_points_xs)), (aT_points_ys, .inl (cI, 24, .inl T_points_ys)), (aT_pointsAbove, .inl (cI, 24, .inl T_pointsAbove)), (aT_roots, .inl (cI, 24, .inl T_roots)), (aT_seconds, .inl (cI, 24, .inl T_seconds))]
  unfold mX2_makeJoin at hm
  refine r_aload_n S dX2_makeJoin_0 rfl 0 rfl ?_
  refine r_get (T := TX2) (ci := 2) S (tlA inlX2) rfl 0 rfl 2 (Nat.le_of_ble_eq_true rfl) (tl u50) rfl dX2_makeJoin_1 ?_
  refine r_iload_n S dX2_makeJoin_4 rfl 1 rfl ?_
  obtain ⟨v1, h_v1, hm⟩ := bS hm
  refine r_lald S h_v1 6 1 rfl rfl dX2_makeJoin_5 ?_
  refine r_iconst (v := (5 : Int32)) S dX2_makeJoin_6 rfl ?_
  refine r_lshr S dX2_makeJoin_7 ?_
  refine r_ldc2 (v := (31 : Int64)) S (tl u208) dX2_makeJoin_8 ?_
  refine r_land S dX2_makeJoin_11 ?_
  refine r_l2i S dX2_makeJoin_12 ?_
  obtain ⟨v2, h_v2, hm⟩ := bS hm
  refine r_topI h_v2 ?_
  refine r_istore_n S dX2_makeJoin_13 rfl (Nat.le_of_ble_eq_true rfl) (lv' := [(2, .int v2), (0, .ref aT), (1, .int x1)]) rfl ?_
  refine r_aload_n S dX2_makeJoin_14 rfl 1 rfl ?_
  refine r_get (T := TX2) (ci := 2) S (tlA inlX2) rfl 0 rfl 2 (Nat.le_of_ble_eq_true rfl) (tl u50) rfl dX2_makeJoin_15 ?_
  refine r_iload_n S dX2_makeJoin_18 rfl 2 rfl ?_
  obtain ⟨v3, h_v3, hm⟩ := bS hm
  refine r_lald S h_v3 6 1 rfl rfl dX2_makeJoin_19 ?_
  refine r_ldc2 (v := (31 : Int64)) S (tl u208) dX2_makeJoin_20 ?_
  refine r_land S dX2_makeJoin_23 ?_
  refine r_l2i S dX2_makeJoin_24 ?_
  obtain ⟨v4, h_v4, hm⟩ := bS hm
  refine r_topI h_v4 ?_
  refine r_istore_n S dX2_makeJoin_25 rfl (Nat.le_of_ble_eq_true rfl) (lv' := [(3, .int v4), (2, .int v2), (0, .ref aT), (1, .int x1)]) rfl ?_
  refine r_iload_n S dX2_makeJoin_26 rfl 1 rfl ?_
  refine r_aload_n S dX2_makeJoin_27 rfl 2 rfl ?_
  refine r_get (T := TX2) (ci := 2) S (tlA inlX2) rfl 0 rfl 0 (Nat.le_of_ble_eq_true rfl) (tl u47) rfl dX2_makeJoin_28 ?_
  refine r_get (T := TX4) (ci := 4) S (tlA inlX4) rfl 1 rfl 0 (Nat.le_of_ble_eq_true rfl) (tl u165) rfl dX2_makeJoin_31 ?_
  refine r_icmp_ge 48 S dX2_makeJoin_34 (by decide) (fun c5 => ?_) (fun c5 => ?_)
  · replace hm := iT c5 hm
    exact hR (T_aparts, T_firstSides, T_firsts, T_joinsAbove, T_nodes, T_otherSides, T_pairs, T_parts, T_pointsAbove, T_roots, T_seconds) _ _ hm dX2_makeJoin_48
  · replace hm := iF c5 hm
    refine r_iload_n S dX2_makeJoin_37 rfl 0 rfl ?_
    refine r_aload_n S dX2_makeJoin_38 rfl 2 rfl ?_
    refine r_get (T := TX2) (ci := 2) S (tlA inlX2) rfl 0 rfl 0 (Nat.le_of_ble_eq_true rfl) (tl u47) rfl dX2_makeJoin_39 ?_
    refine r_get (T := TX4) (ci := 4) S (tlA inlX4) rfl 1 rfl 0 (Nat.le_of_ble_eq_true rfl) (tl u165) rfl dX2_makeJoin_42 ?_
    refine r_icmp_lt 49 S dX2_makeJoin_45 (by decide) (fun c6 => ?_) (fun c6 => ?_)
    · replace hm := iT c6 hm
      refine r_aload_n S dX2_makeJoin_49 rfl 2 rfl ?_
      refine r_get (T := TX2) (ci := 2) S (tlA inlX2) rfl 0 rfl 3 (Nat.le_of_ble_eq_true rfl) (tl u51) rfl dX2_makeJoin_50 ?_
      refine r_iload_n S dX2_makeJoin_53 rfl 3 rfl ?_
      refine r_aload_n S dX2_makeJoin_54 rfl 2 rfl ?_
      refine r_get (T := TX2) (ci := 2) S (tlA inlX2) rfl 0 rfl 2 (Nat.le_of_ble_eq_true rfl) (tl u50) rfl dX2_makeJoin_55 ?_
      refine r_iload_n S dX2_makeJoin_58 rfl 3 rfl ?_
      obtain ⟨v7, h_v7, hm⟩ := bS hm
      refine r_lald S h_v7 6 1 rfl rfl dX2_makeJoin_59 ?_
      refine r_bipush (v := (10 : Int32)) S dX2_makeJoin_60 rfl ?_
      refine r_lshr S dX2_makeJoin_62 ?_
      refine r_l2i S dX2_makeJoin_63 ?_
      obtain ⟨g8, h_g8, hm⟩ := bS hm
      refine r_iast S h_g8 2 0 rfl rfl (ws' := [(aT, .inr (2, [.ref aT_points, .int T_count, .ref aT_keys, .ref aT_aparts, .ref aT_roots, .ref aT_firsts, .ref aT_seconds, .ref aT_parts, .ref aT_firstSides, .ref aT_otherSides, .ref aT_joinsAbove, .ref aT_pointsAbove, .ref aT_pairs, .ref aT_links, .ref aT_nodes])), (aT_points, .inr (4, [.int T_points_count, .ref aT_points_xs, .ref aT_points_ys, .ref aT_points_ws])), (aT_aparts, .inl (cI, 24, .inl g8)), (aT_firstSides, .inl (cI, 24, .inl T_firstSides)), (aT_firsts, .inl (cI, 24, .inl T_firsts)), (aT_joinsAbove, .inl (cI, 24, .inl T_joinsAbove)), (aT_keys, .inl (cJ, 24, .inr (.inl T_keys))), (aT_nodes, .inl (cI, 24, .inl T_nodes)), (aT_otherSides, .inl (cI, 24, .inl T_otherSides)), (aT_pairs, .inl (cJ, 24, .inr (.inl T_pairs))), (aT_parts, .inl (cI, 24, .inl T_parts)), (aT_points_xs, .inl (cI, 24, .inl T_points_xs)), (aT_points_ys, .inl (cI, 24, .inl T_points_ys)), (aT_pointsAbove, .inl (cI, 24, .inl T_pointsAbove)), (aT_roots, .inl (cI, 24, .inl T_roots)), (aT_seconds, .inl (cI, 24, .inl T_seconds))]) rfl dX2_makeJoin_64 ?_
      refine r_aload_n S dX2_makeJoin_65 rfl 2 rfl ?_
      refine r_get (T := TX2) (ci := 2) S (tlA inlX2) rfl 0 rfl 4 (Nat.le_of_ble_eq_true rfl) (tl u52) rfl dX2_makeJoin_66 ?_
      refine r_iload_n S dX2_makeJoin_69 rfl 3 rfl ?_
      refine r_aload_n S dX2_makeJoin_70 rfl 2 rfl ?_
      refine r_get (T := TX2) (ci := 2) S (tlA inlX2) rfl 0 rfl 3 (Nat.le_of_ble_eq_true rfl) (tl u51) rfl dX2_makeJoin_71 ?_
      refine r_iload_n S dX2_makeJoin_74 rfl 3 rfl ?_
      obtain ⟨v9, h_v9, hm⟩ := bS hm
      refine r_iald S h_v9 2 0 rfl rfl dX2_makeJoin_75 ?_
      obtain ⟨r10, h_r10, hm⟩ := bS hm
      refine r_calliS S (c_X6_root l0 D0 cI cJ cZ cY F v9 _ h_r10) (gS u209 u210 u198 u211) ok_X6_root ⟨rfl, rfl⟩ ⟨Nat.le_of_ble_eq_true rfl, Nat.le_of_ble_eq_true rfl⟩ [] [0, 1, 2, 3, 4, 5, 6, 7, 8, 9, 10, 11, 12, 13, 14, 15] rfl (wr := [(aT, .inr (2, [.ref aT_points, .int T_count, .ref aT_keys, .ref aT_aparts, .ref aT_roots, .ref aT_firsts, .ref aT_seconds, .ref aT_parts, .ref aT_firstSides, .ref aT_otherSides, .ref aT_joinsAbove, .ref aT_pointsAbove, .ref aT_pairs, .ref aT_links, .ref aT_nodes])), (aT_points, .inr (4, [.int T_points_count, .ref aT_points_xs, .ref aT_points_ys, .ref aT_points_ws])), (aT_aparts, .inl (cI, 24, .inl g8)), (aT_firstSides, .inl (cI, 24, .inl T_firstSides)), (aT_firsts, .inl (cI, 24, .inl T_firsts)), (aT_joinsAbove, .inl (cI, 24, .inl T_joinsAbove)), (aT_keys, .inl (cJ, 24, .inr (.inl T_keys))), (aT_nodes, .inl (cI, 24, .inl T_nodes)), (aT_otherSides, .inl (cI, 24, .inl T_otherSides)), (aT_pairs, .inl (cJ, 24, .inr (.inl T_pairs))), (aT_parts, .inl (cI, 24, .inl T_parts)), (aT_points_xs, .inl (cI, 24, .inl T_points_xs)), (aT_points_ys, .inl (cI, 24, .inl T_points_ys)), (aT_pointsAbove, .inl (cI, 24, .inl T_pointsAbove)), (aT_roots, .inl (cI, 24, .inl T_roots)), (aT_seconds, .inl (cI, 24, .inl T_seconds))]) rfl rfl rfl (by decide) (ws' := [(aT, .inr (2, [.ref aT_points, .int T_count, .ref aT_keys, .ref aT_aparts, .ref aT_roots, .ref aT_firsts, .ref aT_seconds, .ref aT_parts, .ref aT_firstSides, .ref aT_otherSides, .ref aT_joinsAbove, .ref aT_pointsAbove, .ref aT_pairs, .ref aT_links, .ref aT_nodes])), (aT_points, .inr (4, [.int T_points_count, .ref aT_points_xs, .ref aT_points_ys, .ref aT_points_ws])), (aT_aparts, .inl (cI, 24, .inl g8)), (aT_firstSides, .inl (cI, 24, .inl T_firstSides)), (aT_firsts, .inl (cI, 24, .inl T_firsts)), (aT_joinsAbove, .inl (cI, 24, .inl T_joinsAbove)), (aT_keys, .inl (cJ, 24, .inr (.inl T_keys))), (aT_nodes, .inl (cI, 24, .inl T_nodes)), (aT_otherSides, .inl (cI, 24, .inl T_otherSides)), (aT_pairs, .inl (cJ, 24, .inr (.inl T_pairs))), (aT_parts, .inl (cI, 24, .inl T_parts)), (aT_points_xs, .inl (cI, 24, .inl T_points_xs)), (aT_points_ys, .inl (cI, 24, .inl T_points_ys)), (aT_pointsAbove, .inl (cI, 24, .inl T_pointsAbove)), (aT_roots, .inl (cI, 24, .inl T_roots)), (aT_seconds, .inl (cI, 24, .inl T_seconds))]) rfl (As := [.int v9]) (rest := [.int x1, .ref aT_roots]) rfl rfl (Nat.le_of_ble_eq_true rfl) dX2_makeJoin_76 ?_
      obtain ⟨g11, h_g11, hm⟩ := bS hm
      refine r_iast S h_g11 14 0 rfl rfl (ws' := [(aT, .inr (2, [.ref aT_points, .int T_count, .ref aT_keys, .ref aT_aparts, .ref aT_roots, .ref aT_firsts, .ref aT_seconds, .ref aT_parts, .ref aT_firstSides, .ref aT_otherSides, .ref aT_joinsAbove, .ref aT_pointsAbove, .ref aT_pairs, .ref aT_links, .ref aT_nodes])), (aT_points, .inr (4, [.int T_points_count, .ref aT_points_xs, .ref aT_points_ys, .ref aT_points_ws])), (aT_aparts, .inl (cI, 24, .inl g8)), (aT_firstSides, .inl (cI, 24, .inl T_firstSides)), (aT_firsts, .inl (cI, 24, .inl T_firsts)), (aT_joinsAbove, .inl (cI, 24, .inl T_joinsAbove)), (aT_keys, .inl (cJ, 24, .inr (.inl T_keys))), (aT_nodes, .inl (cI, 24, .inl T_nodes)), (aT_otherSides, .inl (cI, 24, .inl T_otherSides)), (aT_pairs, .inl (cJ, 24, .inr (.inl T_pairs))), (aT_parts, .inl (cI, 24, .inl T_parts)), (aT_points_xs, .inl (cI, 24, .inl T_points_xs)), (aT_points_ys, .inl (cI, 24, .inl T_points_ys)), (aT_pointsAbove, .inl (cI, 24, .inl T_pointsAbove)), (aT_roots, .inl (cI, 24, .inl g11)), (aT_seconds, .inl (cI, 24, .inl T_seconds))]) rfl dX2_makeJoin_79 ?_
      refine r_aload_n S dX2_makeJoin_80 rfl 2 rfl ?_
      refine r_get (T := TX2) (ci := 2) S (tlA inlX2) rfl 0 rfl 5 (Nat.le_of_ble_eq_true rfl) (tl u53) rfl dX2_makeJoin_81 ?_
      refine r_iload_n S dX2_makeJoin_84 rfl 3 rfl ?_
      refine r_iload_n S dX2_makeJoin_85 rfl 1 rfl ?_
      obtain ⟨g12, h_g12, hm⟩ := bS hm
      refine r_iast S h_g12 4 0 rfl rfl (ws' := [(aT, .inr (2, [.ref aT_points, .int T_count, .ref aT_keys, .ref aT_aparts, .ref aT_roots, .ref aT_firsts, .ref aT_seconds, .ref aT_parts, .ref aT_firstSides, .ref aT_otherSides, .ref aT_joinsAbove, .ref aT_pointsAbove, .ref aT_pairs, .ref aT_links, .ref aT_nodes])), (aT_points, .inr (4, [.int T_points_count, .ref aT_points_xs, .ref aT_points_ys, .ref aT_points_ws])), (aT_aparts, .inl (cI, 24, .inl g8)), (aT_firstSides, .inl (cI, 24, .inl T_firstSides)), (aT_firsts, .inl (cI, 24, .inl g12)), (aT_joinsAbove, .inl (cI, 24, .inl T_joinsAbove)), (aT_keys, .inl (cJ, 24, .inr (.inl T_keys))), (aT_nodes, .inl (cI, 24, .inl T_nodes)), (aT_otherSides, .inl (cI, 24, .inl T_otherSides)), (aT_pairs, .inl (cJ, 24, .inr (.inl T_pairs))), (aT_parts, .inl (cI, 24, .inl T_parts)), (aT_points_xs, .inl (cI, 24, .inl T_points_xs)), (aT_points_ys, .inl (cI, 24, .inl T_points_ys)), (aT_pointsAbove, .inl (cI, 24, .inl T_pointsAbove)), (aT_roots, .inl (cI, 24, .inl g11)), (aT_seconds, .inl (cI, 24, .inl T_seconds))]) rfl dX2_makeJoin_86 ?_
      refine r_aload_n S dX2_makeJoin_87 rfl 2 rfl ?_
      refine r_get (T := TX2) (ci := 2) S (tlA inlX2) rfl 0 rfl 6 (Nat.le_of_ble_eq_true rfl) (tl u54) rfl dX2_makeJoin_88 ?_
      refine r_iload_n S dX2_makeJoin_91 rfl 3 rfl ?_
      refine r_iload_n S dX2_makeJoin_92 rfl 0 rfl ?_
      obtain ⟨g13, h_g13, hm⟩ := bS hm
      refine r_iast S h_g13 15 0 rfl rfl (ws' := [(aT, .inr (2, [.ref aT_points, .int T_count, .ref aT_keys, .ref aT_aparts, .ref aT_roots, .ref aT_firsts, .ref aT_seconds, .ref aT_parts, .ref aT_firstSides, .ref aT_otherSides, .ref aT_joinsAbove, .ref aT_pointsAbove, .ref aT_pairs, .ref aT_links, .ref aT_nodes])), (aT_points, .inr (4, [.int T_points_count, .ref aT_points_xs, .ref aT_points_ys, .ref aT_points_ws])), (aT_aparts, .inl (cI, 24, .inl g8)), (aT_firstSides, .inl (cI, 24, .inl T_firstSides)), (aT_firsts, .inl (cI, 24, .inl g12)), (aT_joinsAbove, .inl (cI, 24, .inl T_joinsAbove)), (aT_keys, .inl (cJ, 24, .inr (.inl T_keys))), (aT_nodes, .inl (cI, 24, .inl T_nodes)), (aT_otherSides, .inl (cI, 24, .inl T_otherSides)), (aT_pairs, .inl (cJ, 24, .inr (.inl T_pairs))), (aT_parts, .inl (cI, 24, .inl T_parts)), (aT_points_xs, .inl (cI, 24, .inl T_points_xs)), (aT_points_ys, .inl (cI, 24, .inl T_points_ys)), (aT_pointsAbove, .inl (cI, 24, .inl T_pointsAbove)), (aT_roots, .inl (cI, 24, .inl g11)), (aT_seconds, .inl (cI, 24, .inl g13))]) rfl dX2_makeJoin_93 ?_
      refine r_aload_n S dX2_makeJoin_94 rfl 2 rfl ?_
      refine r_get (T := TX2) (ci := 2) S (tlA inlX2) rfl 0 rfl 12 (Nat.le_of_ble_eq_true rfl) (tl u60) rfl dX2_makeJoin_95 ?_
      refine r_iload_n S dX2_makeJoin_98 rfl 3 rfl ?_
      refine r_aload_n S dX2_makeJoin_99 rfl 2 rfl ?_
      refine r_iload_n S dX2_makeJoin_100 rfl 1 rfl ?_
      obtain ⟨r14, h_r14, hm⟩ := bS hm
      refine r_calllV S (c_X2_placeOf l0 D0 cI cJ cZ cY F aT aT_points aT_keys aT_aparts aT_roots aT_firsts aT_seconds aT_parts aT_firstSides aT_otherSides aT_joinsAbove aT_pointsAbove aT_pairs aT_links aT_nodes aT_points_xs aT_points_ys aT_points_ws T_count T_points_count T_points_xs T_points_ys v2 _ h_r14) (gV u212 u213 u214 u11 u215) ok_X2_placeOf ⟨rfl, rfl⟩ ⟨Nat.le_of_ble_eq_true rfl, Nat.le_of_ble_eq_true rfl⟩ [0, 1, 11, 12] [2, 3, 4, 5, 6, 7, 8, 9, 10, 13, 14, 15] rfl (wr := [(aT_aparts, .inl (cI, 24, .inl g8)), (aT_firstSides, .inl (cI, 24, .inl T_firstSides)), (aT_firsts, .inl (cI, 24, .inl g12)), (aT_joinsAbove, .inl (cI, 24, .inl T_joinsAbove)), (aT_keys, .inl (cJ, 24, .inr (.inl T_keys))), (aT_nodes, .inl (cI, 24, .inl T_nodes)), (aT_otherSides, .inl (cI, 24, .inl T_otherSides)), (aT_pairs, .inl (cJ, 24, .inr (.inl T_pairs))), (aT_parts, .inl (cI, 24, .inl T_parts)), (aT_pointsAbove, .inl (cI, 24, .inl T_pointsAbove)), (aT_roots, .inl (cI, 24, .inl g11)), (aT_seconds, .inl (cI, 24, .inl g13))]) rfl rfl rfl (by decide) (ci := 2) (T := TX2) 0 rfl rfl (ws' := [(aT_aparts, .inl (cI, 24, .inl g8)), (aT_firstSides, .inl (cI, 24, .inl T_firstSides)), (aT_firsts, .inl (cI, 24, .inl g12)), (aT_joinsAbove, .inl (cI, 24, .inl T_joinsAbove)), (aT_keys, .inl (cJ, 24, .inr (.inl T_keys))), (aT_nodes, .inl (cI, 24, .inl T_nodes)), (aT_otherSides, .inl (cI, 24, .inl T_otherSides)), (aT_pairs, .inl (cJ, 24, .inr (.inl T_pairs))), (aT_parts, .inl (cI, 24, .inl T_parts)), (aT_pointsAbove, .inl (cI, 24, .inl T_pointsAbove)), (aT_roots, .inl (cI, 24, .inl g11)), (aT_seconds, .inl (cI, 24, .inl g13)), (aT, .inr (2, [.ref aT_points, .int T_count, .ref aT_keys, .ref aT_aparts, .ref aT_roots, .ref aT_firsts, .ref aT_seconds, .ref aT_parts, .ref aT_firstSides, .ref aT_otherSides, .ref aT_joinsAbove, .ref aT_pointsAbove, .ref aT_pairs, .ref aT_links, .ref aT_nodes])), (aT_points, .inr (4, [.int T_points_count, .ref aT_points_xs, .ref aT_points_ys, .ref aT_points_ws])), (aT_points_xs, .inl (cI, 24, .inl T_points_xs)), (aT_points_ys, .inl (cI, 24, .inl T_points_ys))]) rfl (As := [.int v2]) (rest := [.int x1, .ref aT_pairs]) rfl rfl (Nat.le_of_ble_eq_true rfl) dX2_makeJoin_101 ?_
      refine r_bipush (v := (20 : Int32)) S dX2_makeJoin_104 rfl ?_
      refine r_lshl S dX2_makeJoin_106 ?_
      refine r_aload_n S dX2_makeJoin_107 rfl 2 rfl ?_
      refine r_iload_n S dX2_makeJoin_108 rfl 0 rfl ?_
      obtain ⟨r15, h_r15, hm⟩ := bS hm
      refine r_calllV S (c_X2_placeOf l0 D0 cI cJ cZ cY F aT aT_points aT_keys aT_aparts aT_roots aT_firsts aT_seconds aT_parts aT_firstSides aT_otherSides aT_joinsAbove aT_pointsAbove aT_pairs aT_links aT_nodes aT_points_xs aT_points_ys aT_points_ws T_count T_points_count T_points_xs T_points_ys v4 _ h_r15) (gV u212 u213 u214 u11 u215) ok_X2_placeOf ⟨rfl, rfl⟩ ⟨Nat.le_of_ble_eq_true rfl, Nat.le_of_ble_eq_true rfl⟩ [12, 13, 14, 15] [0, 1, 2, 3, 4, 5, 6, 7, 8, 9, 10, 11] rfl (wr := [(aT_aparts, .inl (cI, 24, .inl g8)), (aT_firstSides, .inl (cI, 24, .inl T_firstSides)), (aT_firsts, .inl (cI, 24, .inl g12)), (aT_joinsAbove, .inl (cI, 24, .inl T_joinsAbove)), (aT_keys, .inl (cJ, 24, .inr (.inl T_keys))), (aT_nodes, .inl (cI, 24, .inl T_nodes)), (aT_otherSides, .inl (cI, 24, .inl T_otherSides)), (aT_pairs, .inl (cJ, 24, .inr (.inl T_pairs))), (aT_parts, .inl (cI, 24, .inl T_parts)), (aT_pointsAbove, .inl (cI, 24, .inl T_pointsAbove)), (aT_roots, .inl (cI, 24, .inl g11)), (aT_seconds, .inl (cI, 24, .inl g13))]) rfl rfl rfl (by decide) (ci := 2) (T := TX2) 0 rfl rfl (ws' := [(aT_aparts, .inl (cI, 24, .inl g8)), (aT_firstSides, .inl (cI, 24, .inl T_firstSides)), (aT_firsts, .inl (cI, 24, .inl g12)), (aT_joinsAbove, .inl (cI, 24, .inl T_joinsAbove)), (aT_keys, .inl (cJ, 24, .inr (.inl T_keys))), (aT_nodes, .inl (cI, 24, .inl T_nodes)), (aT_otherSides, .inl (cI, 24, .inl T_otherSides)), (aT_pairs, .inl (cJ, 24, .inr (.inl T_pairs))), (aT_parts, .inl (cI, 24, .inl T_parts)), (aT_pointsAbove, .inl (cI, 24, .inl T_pointsAbove)), (aT_roots, .inl (cI, 24, .inl g11)), (aT_seconds, .inl (cI, 24, .inl g13)), (aT, .inr (2, [.ref aT_points, .int T_count, .ref aT_keys, .ref aT_aparts, .ref aT_roots, .ref aT_firsts, .ref aT_seconds, .ref aT_parts, .ref aT_firstSides, .ref aT_otherSides, .ref aT_joinsAbove, .ref aT_pointsAbove, .ref aT_pairs, .ref aT_links, .ref aT_nodes])), (aT_points, .inr (4, [.int T_points_count, .ref aT_points_xs, .ref aT_points_ys, .ref aT_points_ws])), (aT_points_xs, .inl (cI, 24, .inl T_points_xs)), (aT_points_ys, .inl (cI, 24, .inl T_points_ys))]) rfl (As := [.int v4]) (rest := [.long (r14 <<< (((20 : Int32)).toInt64 &&& 63)), .int x1, .ref aT_pairs]) rfl rfl (Nat.le_of_ble_eq_true rfl) dX2_makeJoin_109 ?_
      refine r_lor S dX2_makeJoin_112 ?_
      obtain ⟨g16, h_g16, hm⟩ := bS hm
      refine r_last S h_g16 7 1 rfl rfl (ws' := [(aT_aparts, .inl (cI, 24, .inl g8)), (aT_firstSides, .inl (cI, 24, .inl T_firstSides)), (aT_firsts, .inl (cI, 24, .inl g12)), (aT_joinsAbove, .inl (cI, 24, .inl T_joinsAbove)), (aT_keys, .inl (cJ, 24, .inr (.inl T_keys))), (aT_nodes, .inl (cI, 24, .inl T_nodes)), (aT_otherSides, .inl (cI, 24, .inl T_otherSides)), (aT_pairs, .inl (cJ, 24, .inr (.inl g16))), (aT_parts, .inl (cI, 24, .inl T_parts)), (aT_pointsAbove, .inl (cI, 24, .inl T_pointsAbove)), (aT_roots, .inl (cI, 24, .inl g11)), (aT_seconds, .inl (cI, 24, .inl g13)), (aT, .inr (2, [.ref aT_points, .int T_count, .ref aT_keys, .ref aT_aparts, .ref aT_roots, .ref aT_firsts, .ref aT_seconds, .ref aT_parts, .ref aT_firstSides, .ref aT_otherSides, .ref aT_joinsAbove, .ref aT_pointsAbove, .ref aT_pairs, .ref aT_links, .ref aT_nodes])), (aT_points, .inr (4, [.int T_points_count, .ref aT_points_xs, .ref aT_points_ys, .ref aT_points_ws])), (aT_points_xs, .inl (cI, 24, .inl T_points_xs)), (aT_points_ys, .inl (cI, 24, .inl T_points_ys))]) rfl dX2_makeJoin_113 ?_
      refine r_aload_n S dX2_makeJoin_114 rfl 2 rfl ?_
      refine r_get (T := TX2) (ci := 2) S (tlA inlX2) rfl 12 rfl 8 (Nat.le_of_ble_eq_true rfl) (tl u56) rfl dX2_makeJoin_115 ?_
      refine r_iload_n S dX2_makeJoin_118 rfl 3 rfl ?_
      refine r_aload_n S dX2_makeJoin_119 rfl 2 rfl ?_
      refine r_get (T := TX2) (ci := 2) S (tlA inlX2) rfl 12 rfl 14 (Nat.le_of_ble_eq_true rfl) (tl u62) rfl dX2_makeJoin_120 ?_
      refine r_iload_n S dX2_makeJoin_123 rfl 1 rfl ?_
      obtain ⟨v17, h_v17, hm⟩ := bS hm
      refine r_iald S h_v17 5 0 rfl rfl dX2_makeJoin_124 ?_
      obtain ⟨g18, h_g18, hm⟩ := bS hm
      refine r_iast S h_g18 1 0 rfl rfl (ws' := [(aT_aparts, .inl (cI, 24, .inl g8)), (aT_firstSides, .inl (cI, 24, .inl g18)), (aT_firsts, .inl (cI, 24, .inl g12)), (aT_joinsAbove, .inl (cI, 24, .inl T_joinsAbove)), (aT_keys, .inl (cJ, 24, .inr (.inl T_keys))), (aT_nodes, .inl (cI, 24, .inl T_nodes)), (aT_otherSides, .inl (cI, 24, .inl T_otherSides)), (aT_pairs, .inl (cJ, 24, .inr (.inl g16))), (aT_parts, .inl (cI, 24, .inl T_parts)), (aT_pointsAbove, .inl (cI, 24, .inl T_pointsAbove)), (aT_roots, .inl (cI, 24, .inl g11)), (aT_seconds, .inl (cI, 24, .inl g13)), (aT, .inr (2, [.ref aT_points, .int T_count, .ref aT_keys, .ref aT_aparts, .ref aT_roots, .ref aT_firsts, .ref aT_seconds, .ref aT_parts, .ref aT_firstSides, .ref aT_otherSides, .ref aT_joinsAbove, .ref aT_pointsAbove, .ref aT_pairs, .ref aT_links, .ref aT_nodes])), (aT_points, .inr (4, [.int T_points_count, .ref aT_points_xs, .ref aT_points_ys, .ref aT_points_ws])), (aT_points_xs, .inl (cI, 24, .inl T_points_xs)), (aT_points_ys, .inl (cI, 24, .inl T_points_ys))]) rfl dX2_makeJoin_125 ?_
      refine r_aload_n S dX2_makeJoin_126 rfl 2 rfl ?_
      refine r_get (T := TX2) (ci := 2) S (tlA inlX2) rfl 12 rfl 9 (Nat.le_of_ble_eq_true rfl) (tl u57) rfl dX2_makeJoin_127 ?_
      refine r_iload_n S dX2_makeJoin_130 rfl 3 rfl ?_
      refine r_aload_n S dX2_makeJoin_131 rfl 2 rfl ?_
      refine r_get (T := TX2) (ci := 2) S (tlA inlX2) rfl 12 rfl 14 (Nat.le_of_ble_eq_true rfl) (tl u62) rfl dX2_makeJoin_132 ?_
      refine r_iload_n S dX2_makeJoin_135 rfl 0 rfl ?_
      obtain ⟨v19, h_v19, hm⟩ := bS hm
      refine r_iald S h_v19 5 0 rfl rfl dX2_makeJoin_136 ?_
      obtain ⟨g20, h_g20, hm⟩ := bS hm
      refine r_iast S h_g20 6 0 rfl rfl (ws' := [(aT_aparts, .inl (cI, 24, .inl g8)), (aT_firstSides, .inl (cI, 24, .inl g18)), (aT_firsts, .inl (cI, 24, .inl g12)), (aT_joinsAbove, .inl (cI, 24, .inl T_joinsAbove)), (aT_keys, .inl (cJ, 24, .inr (.inl T_keys))), (aT_nodes, .inl (cI, 24, .inl T_nodes)), (aT_otherSides, .inl (cI, 24, .inl g20)), (aT_pairs, .inl (cJ, 24, .inr (.inl g16))), (aT_parts, .inl (cI, 24, .inl T_parts)), (aT_pointsAbove, .inl (cI, 24, .inl T_pointsAbove)), (aT_roots, .inl (cI, 24, .inl g11)), (aT_seconds, .inl (cI, 24, .inl g13)), (aT, .inr (2, [.ref aT_points, .int T_count, .ref aT_keys, .ref aT_aparts, .ref aT_roots, .ref aT_firsts, .ref aT_seconds, .ref aT_parts, .ref aT_firstSides, .ref aT_otherSides, .ref aT_joinsAbove, .ref aT_pointsAbove, .ref aT_pairs, .ref aT_links, .ref aT_nodes])), (aT_points, .inr (4, [.int T_points_count, .ref aT_points_xs, .ref aT_points_ys, .ref aT_points_ws])), (aT_points_xs, .inl (cI, 24, .inl T_points_xs)), (aT_points_ys, .inl (cI, 24, .inl T_points_ys))]) rfl dX2_makeJoin_137 ?_
      refine r_aload_n S dX2_makeJoin_138 rfl 2 rfl ?_
      refine r_get (T := TX2) (ci := 2) S (tlA inlX2) rfl 12 rfl 7 (Nat.le_of_ble_eq_true rfl) (tl u55) rfl dX2_makeJoin_139 ?_
      refine r_iload_n S dX2_makeJoin_142 rfl 3 rfl ?_
      refine r_aload_n S dX2_makeJoin_143 rfl 2 rfl ?_
      refine r_aload_n S dX2_makeJoin_144 rfl 2 rfl ?_
      refine r_get (T := TX2) (ci := 2) S (tlA inlX2) rfl 12 rfl 14 (Nat.le_of_ble_eq_true rfl) (tl u62) rfl dX2_makeJoin_145 ?_
      refine r_iload_n S dX2_makeJoin_148 rfl 1 rfl ?_
      obtain ⟨v21, h_v21, hm⟩ := bS hm
      refine r_iald S h_v21 5 0 rfl rfl dX2_makeJoin_149 ?_
      obtain ⟨r22, h_r22, hm⟩ := bS hm
      refine r_calliV S (c_X2_setOf l0 D0 cI cJ cZ cY F aT aT_points aT_keys aT_aparts aT_roots aT_firsts aT_seconds aT_parts aT_firstSides aT_otherSides aT_joinsAbove aT_pointsAbove aT_pairs aT_links aT_nodes T_count T_parts v21 _ h_r22) (gV u218 u219 u220 u11 u221) ok_X2_setOf ⟨rfl, rfl⟩ ⟨Nat.le_of_ble_eq_true rfl, Nat.le_of_ble_eq_true rfl⟩ [12, 8] [0, 1, 2, 3, 4, 5, 6, 7, 9, 10, 11, 13, 14, 15] rfl (wr := [(aT_aparts, .inl (cI, 24, .inl g8)), (aT_firstSides, .inl (cI, 24, .inl g18)), (aT_firsts, .inl (cI, 24, .inl g12)), (aT_joinsAbove, .inl (cI, 24, .inl T_joinsAbove)), (aT_keys, .inl (cJ, 24, .inr (.inl T_keys))), (aT_nodes, .inl (cI, 24, .inl T_nodes)), (aT_otherSides, .inl (cI, 24, .inl g20)), (aT_pairs, .inl (cJ, 24, .inr (.inl g16))), (aT_pointsAbove, .inl (cI, 24, .inl T_pointsAbove)), (aT_roots, .inl (cI, 24, .inl g11)), (aT_seconds, .inl (cI, 24, .inl g13)), (aT_points, .inr (4, [.int T_points_count, .ref aT_points_xs, .ref aT_points_ys, .ref aT_points_ws])), (aT_points_xs, .inl (cI, 24, .inl T_points_xs)), (aT_points_ys, .inl (cI, 24, .inl T_points_ys))]) rfl rfl rfl (by decide) (ci := 2) (T := TX2) 0 rfl rfl (ws' := [(aT_aparts, .inl (cI, 24, .inl g8)), (aT_firstSides, .inl (cI, 24, .inl g18)), (aT_firsts, .inl (cI, 24, .inl g12)), (aT_joinsAbove, .inl (cI, 24, .inl T_joinsAbove)), (aT_keys, .inl (cJ, 24, .inr (.inl T_keys))), (aT_nodes, .inl (cI, 24, .inl T_nodes)), (aT_otherSides, .inl (cI, 24, .inl g20)), (aT_pairs, .inl (cJ, 24, .inr (.inl g16))), (aT_pointsAbove, .inl (cI, 24, .inl T_pointsAbove)), (aT_roots, .inl (cI, 24, .inl g11)), (aT_seconds, .inl (cI, 24, .inl g13)), (aT_points, .inr (4, [.int T_points_count, .ref aT_points_xs, .ref aT_points_ys, .ref aT_points_ws])), (aT_points_xs, .inl (cI, 24, .inl T_points_xs)), (aT_points_ys, .inl (cI, 24, .inl T_points_ys)), (aT, .inr (2, [.ref aT_points, .int T_count, .ref aT_keys, .ref aT_aparts, .ref aT_roots, .ref aT_firsts, .ref aT_seconds, .ref aT_parts, .ref aT_firstSides, .ref aT_otherSides, .ref aT_joinsAbove, .ref aT_pointsAbove, .ref aT_pairs, .ref aT_links, .ref aT_nodes])), (aT_parts, .inl (cI, 24, .inl T_parts))]) rfl (As := [.int v21]) (rest := [.int x1, .ref aT_parts]) rfl rfl (Nat.le_of_ble_eq_true rfl) dX2_makeJoin_150 ?_
      refine r_aload_n S dX2_makeJoin_153 rfl 2 rfl ?_
      refine r_aload_n S dX2_makeJoin_154 rfl 2 rfl ?_
      refine r_get (T := TX2) (ci := 2) S (tlA inlX2) rfl 14 rfl 14 (Nat.le_of_ble_eq_true rfl) (tl u62) rfl dX2_makeJoin_155 ?_
      refine r_iload_n S dX2_makeJoin_158 rfl 0 rfl ?_
      obtain ⟨v23, h_v23, hm⟩ := bS hm
      refine r_iald S h_v23 5 0 rfl rfl dX2_makeJoin_159 ?_
      obtain ⟨r24, h_r24, hm⟩ := bS hm
      refine r_calliV S (c_X2_setOf l0 D0 cI cJ cZ cY F aT aT_points aT_keys aT_aparts aT_roots aT_firsts aT_seconds aT_parts aT_firstSides aT_otherSides aT_joinsAbove aT_pointsAbove aT_pairs aT_links aT_nodes T_count T_parts v23 _ h_r24) (gV u218 u219 u220 u11 u221) ok_X2_setOf ⟨rfl, rfl⟩ ⟨Nat.le_of_ble_eq_true rfl, Nat.le_of_ble_eq_true rfl⟩ [14, 15] [0, 1, 2, 3, 4, 5, 6, 7, 8, 9, 10, 11, 12, 13] rfl (wr := [(aT_aparts, .inl (cI, 24, .inl g8)), (aT_firstSides, .inl (cI, 24, .inl g18)), (aT_firsts, .inl (cI, 24, .inl g12)), (aT_joinsAbove, .inl (cI, 24, .inl T_joinsAbove)), (aT_keys, .inl (cJ, 24, .inr (.inl T_keys))), (aT_nodes, .inl (cI, 24, .inl T_nodes)), (aT_otherSides, .inl (cI, 24, .inl g20)), (aT_pairs, .inl (cJ, 24, .inr (.inl g16))), (aT_pointsAbove, .inl (cI, 24, .inl T_pointsAbove)), (aT_roots, .inl (cI, 24, .inl g11)), (aT_seconds, .inl (cI, 24, .inl g13)), (aT_points, .inr (4, [.int T_points_count, .ref aT_points_xs, .ref aT_points_ys, .ref aT_points_ws])), (aT_points_xs, .inl (cI, 24, .inl T_points_xs)), (aT_points_ys, .inl (cI, 24, .inl T_points_ys))]) rfl rfl rfl (by decide) (ci := 2) (T := TX2) 0 rfl rfl (ws' := [(aT_aparts, .inl (cI, 24, .inl g8)), (aT_firstSides, .inl (cI, 24, .inl g18)), (aT_firsts, .inl (cI, 24, .inl g12)), (aT_joinsAbove, .inl (cI, 24, .inl T_joinsAbove)), (aT_keys, .inl (cJ, 24, .inr (.inl T_keys))), (aT_nodes, .inl (cI, 24, .inl T_nodes)), (aT_otherSides, .inl (cI, 24, .inl g20)), (aT_pairs, .inl (cJ, 24, .inr (.inl g16))), (aT_pointsAbove, .inl (cI, 24, .inl T_pointsAbove)), (aT_roots, .inl (cI, 24, .inl g11)), (aT_seconds, .inl (cI, 24, .inl g13)), (aT_points, .inr (4, [.int T_points_count, .ref aT_points_xs, .ref aT_points_ys, .ref aT_points_ws])), (aT_points_xs, .inl (cI, 24, .inl T_points_xs)), (aT_points_ys, .inl (cI, 24, .inl T_points_ys)), (aT, .inr (2, [.ref aT_points, .int T_count, .ref aT_keys, .ref aT_aparts, .ref aT_roots, .ref aT_firsts, .ref aT_seconds, .ref aT_parts, .ref aT_firstSides, .ref aT_otherSides, .ref aT_joinsAbove, .ref aT_pointsAbove, .ref aT_pairs, .ref aT_links, .ref aT_nodes])), (aT_parts, .inl (cI, 24, .inl T_parts))]) rfl (As := [.int v23]) (rest := [.int r22, .int x1, .ref aT_parts]) rfl rfl (Nat.le_of_ble_eq_true rfl) dX2_makeJoin_160 ?_
      refine r_ior S dX2_makeJoin_163 ?_
      obtain ⟨g25, h_g25, hm⟩ := bS hm
      refine r_iast S h_g25 15 0 rfl rfl (ws' := [(aT_aparts, .inl (cI, 24, .inl g8)), (aT_firstSides, .inl (cI, 24, .inl g18)), (aT_firsts, .inl (cI, 24, .inl g12)), (aT_joinsAbove, .inl (cI, 24, .inl T_joinsAbove)), (aT_keys, .inl (cJ, 24, .inr (.inl T_keys))), (aT_nodes, .inl (cI, 24, .inl T_nodes)), (aT_otherSides, .inl (cI, 24, .inl g20)), (aT_pairs, .inl (cJ, 24, .inr (.inl g16))), (aT_pointsAbove, .inl (cI, 24, .inl T_pointsAbove)), (aT_roots, .inl (cI, 24, .inl g11)), (aT_seconds, .inl (cI, 24, .inl g13)), (aT_points, .inr (4, [.int T_points_count, .ref aT_points_xs, .ref aT_points_ys, .ref aT_points_ws])), (aT_points_xs, .inl (cI, 24, .inl T_points_xs)), (aT_points_ys, .inl (cI, 24, .inl T_points_ys)), (aT, .inr (2, [.ref aT_points, .int T_count, .ref aT_keys, .ref aT_aparts, .ref aT_roots, .ref aT_firsts, .ref aT_seconds, .ref aT_parts, .ref aT_firstSides, .ref aT_otherSides, .ref aT_joinsAbove, .ref aT_pointsAbove, .ref aT_pairs, .ref aT_links, .ref aT_nodes])), (aT_parts, .inl (cI, 24, .inl g25))]) rfl dX2_makeJoin_164 ?_
      refine r_aload_n S dX2_makeJoin_165 rfl 2 rfl ?_
      refine r_get (T := TX2) (ci := 2) S (tlA inlX2) rfl 14 rfl 10 (Nat.le_of_ble_eq_true rfl) (tl u58) rfl dX2_makeJoin_166 ?_
      refine r_iload_n S dX2_makeJoin_169 rfl 3 rfl ?_
      refine r_iconst (v := (-1 : Int32)) S dX2_makeJoin_170 rfl ?_
      obtain ⟨g26, h_g26, hm⟩ := bS hm
      refine r_iast S h_g26 3 0 rfl rfl (ws' := [(aT_aparts, .inl (cI, 24, .inl g8)), (aT_firstSides, .inl (cI, 24, .inl g18)), (aT_firsts, .inl (cI, 24, .inl g12)), (aT_joinsAbove, .inl (cI, 24, .inl g26)), (aT_keys, .inl (cJ, 24, .inr (.inl T_keys))), (aT_nodes, .inl (cI, 24, .inl T_nodes)), (aT_otherSides, .inl (cI, 24, .inl g20)), (aT_pairs, .inl (cJ, 24, .inr (.inl g16))), (aT_pointsAbove, .inl (cI, 24, .inl T_pointsAbove)), (aT_roots, .inl (cI, 24, .inl g11)), (aT_seconds, .inl (cI, 24, .inl g13)), (aT_points, .inr (4, [.int T_points_count, .ref aT_points_xs, .ref aT_points_ys, .ref aT_points_ws])), (aT_points_xs, .inl (cI, 24, .inl T_points_xs)), (aT_points_ys, .inl (cI, 24, .inl T_points_ys)), (aT, .inr (2, [.ref aT_points, .int T_count, .ref aT_keys, .ref aT_aparts, .ref aT_roots, .ref aT_firsts, .ref aT_seconds, .ref aT_parts, .ref aT_firstSides, .ref aT_otherSides, .ref aT_joinsAbove, .ref aT_pointsAbove, .ref aT_pairs, .ref aT_links, .ref aT_nodes])), (aT_parts, .inl (cI, 24, .inl g25))]) rfl dX2_makeJoin_171 ?_
      refine r_aload_n S dX2_makeJoin_172 rfl 2 rfl ?_
      refine r_aload_n S dX2_makeJoin_173 rfl 2 rfl ?_
      refine r_get (T := TX2) (ci := 2) S (tlA inlX2) rfl 14 rfl 8 (Nat.le_of_ble_eq_true rfl) (tl u56) rfl dX2_makeJoin_174 ?_
      refine r_iload_n S dX2_makeJoin_177 rfl 3 rfl ?_
      obtain ⟨v27, h_v27, hm⟩ := bS hm
      refine r_iald S h_v27 1 0 rfl rfl dX2_makeJoin_178 ?_
      refine r_iload_n S dX2_makeJoin_179 rfl 3 rfl ?_
      obtain ⟨r28, h_r28, hm⟩ := bS hm
      refine r_callvV S (c_X2_putBelow l0 D0 cI cJ cZ cY F aT aT_points aT_keys aT_aparts aT_roots aT_firsts aT_seconds aT_parts aT_firstSides aT_otherSides aT_joinsAbove aT_pointsAbove aT_pairs aT_links aT_nodes T_count g26 T_pointsAbove v27 x1 _ h_r28) (gV u225 u226 u227 u11 u228) ok_X2_putBelow ⟨rfl, rfl⟩ ⟨Nat.le_of_ble_eq_true rfl, Nat.le_of_ble_eq_true rfl⟩ [14, 3, 8] [0, 1, 2, 4, 5, 6, 7, 9, 10, 11, 12, 13, 15] rfl (wr := [(aT_aparts, .inl (cI, 24, .inl g8)), (aT_firstSides, .inl (cI, 24, .inl g18)), (aT_firsts, .inl (cI, 24, .inl g12)), (aT_keys, .inl (cJ, 24, .inr (.inl T_keys))), (aT_nodes, .inl (cI, 24, .inl T_nodes)), (aT_otherSides, .inl (cI, 24, .inl g20)), (aT_pairs, .inl (cJ, 24, .inr (.inl g16))), (aT_roots, .inl (cI, 24, .inl g11)), (aT_seconds, .inl (cI, 24, .inl g13)), (aT_points, .inr (4, [.int T_points_count, .ref aT_points_xs, .ref aT_points_ys, .ref aT_points_ws])), (aT_points_xs, .inl (cI, 24, .inl T_points_xs)), (aT_points_ys, .inl (cI, 24, .inl T_points_ys)), (aT_parts, .inl (cI, 24, .inl g25))]) rfl rfl rfl (by decide) (ci := 2) (T := TX2) 0 rfl rfl (ws' := [(aT_aparts, .inl (cI, 24, .inl g8)), (aT_firstSides, .inl (cI, 24, .inl g18)), (aT_firsts, .inl (cI, 24, .inl g12)), (aT_keys, .inl (cJ, 24, .inr (.inl T_keys))), (aT_nodes, .inl (cI, 24, .inl T_nodes)), (aT_otherSides, .inl (cI, 24, .inl g20)), (aT_pairs, .inl (cJ, 24, .inr (.inl g16))), (aT_roots, .inl (cI, 24, .inl g11)), (aT_seconds, .inl (cI, 24, .inl g13)), (aT_points, .inr (4, [.int T_points_count, .ref aT_points_xs, .ref aT_points_ys, .ref aT_points_ws])), (aT_points_xs, .inl (cI, 24, .inl T_points_xs)), (aT_points_ys, .inl (cI, 24, .inl T_points_ys)), (aT_parts, .inl (cI, 24, .inl g25)), (aT, .inr (2, [.ref aT_points, .int T_count, .ref aT_keys, .ref aT_aparts, .ref aT_roots, .ref aT_firsts, .ref aT_seconds, .ref aT_parts, .ref aT_firstSides, .ref aT_otherSides, .ref aT_joinsAbove, .ref aT_pointsAbove, .ref aT_pairs, .ref aT_links, .ref aT_nodes])), (aT_joinsAbove, .inl (cI, 24, .inl r28.1)), (aT_pointsAbove, .inl (cI, 24, .inl r28.2))]) rfl (As := [.int v27, .int x1]) (rest := []) rfl rfl (Nat.le_of_ble_eq_true rfl) dX2_makeJoin_180 ?_
      refine r_aload_n S dX2_makeJoin_183 rfl 2 rfl ?_
      refine r_aload_n S dX2_makeJoin_184 rfl 2 rfl ?_
      refine r_get (T := TX2) (ci := 2) S (tlA inlX2) rfl 13 rfl 9 (Nat.le_of_ble_eq_true rfl) (tl u57) rfl dX2_makeJoin_185 ?_
      refine r_iload_n S dX2_makeJoin_188 rfl 3 rfl ?_
      obtain ⟨v29, h_v29, hm⟩ := bS hm
      refine r_iald S h_v29 5 0 rfl rfl dX2_makeJoin_189 ?_
      refine r_iload_n S dX2_makeJoin_190 rfl 3 rfl ?_
      obtain ⟨r30, h_r30, hm⟩ := bS hm
      refine r_callvV S (c_X2_putBelow l0 D0 cI cJ cZ cY F aT aT_points aT_keys aT_aparts aT_roots aT_firsts aT_seconds aT_parts aT_firstSides aT_otherSides aT_joinsAbove aT_pointsAbove aT_pairs aT_links aT_nodes T_count r28.1 r28.2 v29 x1 _ h_r30) (gV u225 u226 u227 u11 u228) ok_X2_putBelow ⟨rfl, rfl⟩ ⟨Nat.le_of_ble_eq_true rfl, Nat.le_of_ble_eq_true rfl⟩ [13, 14, 15] [0, 1, 2, 3, 4, 5, 6, 7, 8, 9, 10, 11, 12] rfl (wr := [(aT_aparts, .inl (cI, 24, .inl g8)), (aT_firstSides, .inl (cI, 24, .inl g18)), (aT_firsts, .inl (cI, 24, .inl g12)), (aT_keys, .inl (cJ, 24, .inr (.inl T_keys))), (aT_nodes, .inl (cI, 24, .inl T_nodes)), (aT_otherSides, .inl (cI, 24, .inl g20)), (aT_pairs, .inl (cJ, 24, .inr (.inl g16))), (aT_roots, .inl (cI, 24, .inl g11)), (aT_seconds, .inl (cI, 24, .inl g13)), (aT_points, .inr (4, [.int T_points_count, .ref aT_points_xs, .ref aT_points_ys, .ref aT_points_ws])), (aT_points_xs, .inl (cI, 24, .inl T_points_xs)), (aT_points_ys, .inl (cI, 24, .inl T_points_ys)), (aT_parts, .inl (cI, 24, .inl g25))]) rfl rfl rfl (by decide) (ci := 2) (T := TX2) 0 rfl rfl (ws' := [(aT_aparts, .inl (cI, 24, .inl g8)), (aT_firstSides, .inl (cI, 24, .inl g18)), (aT_firsts, .inl (cI, 24, .inl g12)), (aT_keys, .inl (cJ, 24, .inr (.inl T_keys))), (aT_nodes, .inl (cI, 24, .inl T_nodes)), (aT_otherSides, .inl (cI, 24, .inl g20)), (aT_pairs, .inl (cJ, 24, .inr (.inl g16))), (aT_roots, .inl (cI, 24, .inl g11)), (aT_seconds, .inl (cI, 24, .inl g13)), (aT_points, .inr (4, [.int T_points_count, .ref aT_points_xs, .ref aT_points_ys, .ref aT_points_ws])), (aT_points_xs, .inl (cI, 24, .inl T_points_xs)), (aT_points_ys, .inl (cI, 24, .inl T_points_ys)), (aT_parts, .inl (cI, 24, .inl g25)), (aT, .inr (2, [.ref aT_points, .int T_count, .ref aT_keys, .ref aT_aparts, .ref aT_roots, .ref aT_firsts, .ref aT_seconds, .ref aT_parts, .ref aT_firstSides, .ref aT_otherSides, .ref aT_joinsAbove, .ref aT_pointsAbove, .ref aT_pairs, .ref aT_links, .ref aT_nodes])), (aT_joinsAbove, .inl (cI, 24, .inl r30.1)), (aT_pointsAbove, .inl (cI, 24, .inl r30.2))]) rfl (As := [.int v29, .int x1]) (rest := []) rfl rfl (Nat.le_of_ble_eq_true rfl) dX2_makeJoin_191 ?_
      refine r_iconst (v := (0 : Int32)) S dX2_makeJoin_194 rfl ?_
      refine r_istore S dX2_makeJoin_195 (Nat.le_of_ble_eq_true rfl) (lv' := [(4, .int (0 : Int32)), (3, .int v4), (2, .int v2), (0, .ref aT), (1, .int x1)]) rfl ?_
      have hR197 : ∀ (r9 : (Nat → Int32) × (Nat → Int32) × (Nat → Int32) × (Nat → Int32) × (Nat → Int32) × (Nat → Int32) × (Nat → Int64) × (Nat → Int32) × (Nat → Int32) × (Nat → Int32) × (Nat → Int32)) (pc : Nat) (lv : List (Nat × Value)), r9 = res → decode cX2_makeJoin pc = .ok (.return_, 1) → G X pc lv [] [(aT, .inr (2, [.ref aT_points, .int T_count, .ref aT_keys, .ref aT_aparts, .ref aT_roots, .ref aT_firsts, .ref aT_seconds, .ref aT_parts, .ref aT_firstSides, .ref aT_otherSides, .ref aT_joinsAbove, .ref aT_pointsAbove, .ref aT_pairs, .ref aT_links, .ref aT_nodes])), (aT_points, .inr (4, [.int T_points_count, .ref aT_points_xs, .ref aT_points_ys, .ref aT_points_ws])), (aT_aparts, .inl (cI, 24, .inl (r9.1))), (aT_firstSides, .inl (cI, 24, .inl (r9.2.1))), (aT_firsts, .inl (cI, 24, .inl (r9.2.2.1))), (aT_joinsAbove, .inl (cI, 24, .inl (r9.2.2.2.1))), (aT_keys, .inl (cJ, 24, .inr (.inl T_keys))), (aT_nodes, .inl (cI, 24, .inl (r9.2.2.2.2.1))), (aT_otherSides, .inl (cI, 24, .inl (r9.2.2.2.2.2.1))), (aT_pairs, .inl (cJ, 24, .inr (.inl (r9.2.2.2.2.2.2.1)))), (aT_parts, .inl (cI, 24, .inl (r9.2.2.2.2.2.2.2.1))), (aT_points_xs, .inl (cI, 24, .inl T_points_xs)), (aT_points_ys, .inl (cI, 24, .inl T_points_ys)), (aT_pointsAbove, .inl (cI, 24, .inl (r9.2.2.2.2.2.2.2.2.1))), (aT_roots, .inl (cI, 24, .inl (r9.2.2.2.2.2.2.2.2.2.1))), (aT_seconds, .inl (cI, 24, .inl (r9.2.2.2.2.2.2.2.2.2.2)))] := fun r9 pc lv h9 hd => hR r9 pc lv (congrArg some h9) hd
      refine r_perm [13, 9, 0, 1, 2, 14, 3, 4, 5, 6, 12, 10, 11, 15, 7, 8] (ws' := [(aT, .inr (2, [.ref aT_points, .int T_count, .ref aT_keys, .ref aT_aparts, .ref aT_roots, .ref aT_firsts, .ref aT_seconds, .ref aT_parts, .ref aT_firstSides, .ref aT_otherSides, .ref aT_joinsAbove, .ref aT_pointsAbove, .ref aT_pairs, .ref aT_links, .ref aT_nodes])), (aT_points, .inr (4, [.int T_points_count, .ref aT_points_xs, .ref aT_points_ys, .ref aT_points_ws])), (aT_aparts, .inl (cI, 24, .inl g8)), (aT_firstSides, .inl (cI, 24, .inl g18)), (aT_firsts, .inl (cI, 24, .inl g12)), (aT_joinsAbove, .inl (cI, 24, .inl r30.1)), (aT_keys, .inl (cJ, 24, .inr (.inl T_keys))), (aT_nodes, .inl (cI, 24, .inl T_nodes)), (aT_otherSides, .inl (cI, 24, .inl g20)), (aT_pairs, .inl (cJ, 24, .inr (.inl g16))), (aT_parts, .inl (cI, 24, .inl g25)), (aT_points_xs, .inl (cI, 24, .inl T_points_xs)), (aT_points_ys, .inl (cI, 24, .inl T_points_ys)), (aT_pointsAbove, .inl (cI, 24, .inl r30.2)), (aT_roots, .inl (cI, 24, .inl g11)), (aT_seconds, .inl (cI, 24, .inl g13))]) rfl rfl ?_
      refine r_lv [3, 4, 0] (lv' := [(0, .ref aT), (1, .int x1), (4, .int (0 : Int32))]) rfl ?_
      refine loopG (r0 := res) (Gd := fun s9 => G X 197 [(0, .ref aT), (1, .int x1), (4, .int s9.1)] [] [(aT, .inr (2, [.ref aT_points, .int T_count, .ref aT_keys, .ref aT_aparts, .ref aT_roots, .ref aT_firsts, .ref aT_seconds, .ref aT_parts, .ref aT_firstSides, .ref aT_otherSides, .ref aT_joinsAbove, .ref aT_pointsAbove, .ref aT_pairs, .ref aT_links, .ref aT_nodes])), (aT_points, .inr (4, [.int T_points_count, .ref aT_points_xs, .ref aT_points_ys, .ref aT_points_ws])), (aT_aparts, .inl (cI, 24, .inl g8)), (aT_firstSides, .inl (cI, 24, .inl g18)), (aT_firsts, .inl (cI, 24, .inl g12)), (aT_joinsAbove, .inl (cI, 24, .inl r30.1)), (aT_keys, .inl (cJ, 24, .inr (.inl T_keys))), (aT_nodes, .inl (cI, 24, .inl s9.2)), (aT_otherSides, .inl (cI, 24, .inl g20)), (aT_pairs, .inl (cJ, 24, .inr (.inl g16))), (aT_parts, .inl (cI, 24, .inl g25)), (aT_points_xs, .inl (cI, 24, .inl T_points_xs)), (aT_points_ys, .inl (cI, 24, .inl T_points_ys)), (aT_pointsAbove, .inl (cI, 24, .inl r30.2)), (aT_roots, .inl (cI, 24, .inl g11)), (aT_seconds, .inl (cI, 24, .inl g13))]) ?_ _ _ hm
      rintro ⟨x4_197, T_nodes_197⟩ b197 hm hk197 hr197
      replace hm : mX2_makeJoin_b197 F x1 T_points_count g8 g11 g12 g13 g16 g18 g20 g25 r30.1 r30.2 x4_197 T_nodes_197 = some b197 := hm
      unfold mX2_makeJoin_b197 at hm
      show G X 197 [(0, .ref aT), (1, .int x1), (4, .int x4_197)] [] [(aT, .inr (2, [.ref aT_points, .int T_count, .ref aT_keys, .ref aT_aparts, .ref aT_roots, .ref aT_firsts, .ref aT_seconds, .ref aT_parts, .ref aT_firstSides, .ref aT_otherSides, .ref aT_joinsAbove, .ref aT_pointsAbove, .ref aT_pairs, .ref aT_links, .ref aT_nodes])), (aT_points, .inr (4, [.int T_points_count, .ref aT_points_xs, .ref aT_points_ys, .ref aT_points_ws])), (aT_aparts, .inl (cI, 24, .inl g8)), (aT_firstSides, .inl (cI, 24, .inl g18)), (aT_firsts, .inl (cI, 24, .inl g12)), (aT_joinsAbove, .inl (cI, 24, .inl r30.1)), (aT_keys, .inl (cJ, 24, .inr (.inl T_keys))), (aT_nodes, .inl (cI, 24, .inl T_nodes_197)), (aT_otherSides, .inl (cI, 24, .inl g20)), (aT_pairs, .inl (cJ, 24, .inr (.inl g16))), (aT_parts, .inl (cI, 24, .inl g25)), (aT_points_xs, .inl (cI, 24, .inl T_points_xs)), (aT_points_ys, .inl (cI, 24, .inl T_points_ys)), (aT_pointsAbove, .inl (cI, 24, .inl r30.2)), (aT_roots, .inl (cI, 24, .inl g11)), (aT_seconds, .inl (cI, 24, .inl g13))]
      refine r_iload S dX2_makeJoin_197 2 rfl ?_
      refine r_aload_n S dX2_makeJoin_199 rfl 0 rfl ?_
      refine r_get (T := TX2) (ci := 2) S (tlA inlX2) rfl 0 rfl 0 (Nat.le_of_ble_eq_true rfl) (tl u47) rfl dX2_makeJoin_200 ?_
      refine r_get (T := TX4) (ci := 4) S (tlA inlX4) rfl 1 rfl 0 (Nat.le_of_ble_eq_true rfl) (tl u165) rfl dX2_makeJoin_203 ?_
      refine r_icmp_ge 240 S dX2_makeJoin_206 (by decide) (fun c32 => ?_) (fun c32 => ?_)
      · replace hm := iT c32 hm
        exact hR197 (g8, g18, g12, r30.1, T_nodes_197, g20, g16, g25, r30.2, g11, g13) _ _ (hr197 _ (Option.some.inj hm).symm) dX2_makeJoin_240
      · replace hm := iF c32 hm
        refine r_aload_n S dX2_makeJoin_209 rfl 0 rfl ?_
        refine r_get (T := TX2) (ci := 2) S (tlA inlX2) rfl 0 rfl 7 (Nat.le_of_ble_eq_true rfl) (tl u55) rfl dX2_makeJoin_210 ?_
        refine r_iload_n S dX2_makeJoin_213 rfl 1 rfl ?_
        obtain ⟨v33, h_v33, hm⟩ := bS hm
        refine r_iald S h_v33 10 0 rfl rfl dX2_makeJoin_214 ?_
        refine r_iload S dX2_makeJoin_215 2 rfl ?_
        obtain ⟨r34, h_r34, hm⟩ := bS hm
        refine r_callzS S (c_X6_has l0 D0 cI cJ cZ cY F v33 x4_197 _ h_r34) (gS u196 u197 u198 u199) ok_X6_has ⟨rfl, rfl⟩ ⟨Nat.le_of_ble_eq_true rfl, Nat.le_of_ble_eq_true rfl⟩ [] [0, 1, 2, 3, 4, 5, 6, 7, 8, 9, 10, 11, 12, 13, 14, 15] rfl (wr := [(aT, .inr (2, [.ref aT_points, .int T_count, .ref aT_keys, .ref aT_aparts, .ref aT_roots, .ref aT_firsts, .ref aT_seconds, .ref aT_parts, .ref aT_firstSides, .ref aT_otherSides, .ref aT_joinsAbove, .ref aT_pointsAbove, .ref aT_pairs, .ref aT_links, .ref aT_nodes])), (aT_points, .inr (4, [.int T_points_count, .ref aT_points_xs, .ref aT_points_ys, .ref aT_points_ws])), (aT_aparts, .inl (cI, 24, .inl g8)), (aT_firstSides, .inl (cI, 24, .inl g18)), (aT_firsts, .inl (cI, 24, .inl g12)), (aT_joinsAbove, .inl (cI, 24, .inl r30.1)), (aT_keys, .inl (cJ, 24, .inr (.inl T_keys))), (aT_nodes, .inl (cI, 24, .inl T_nodes_197)), (aT_otherSides, .inl (cI, 24, .inl g20)), (aT_pairs, .inl (cJ, 24, .inr (.inl g16))), (aT_parts, .inl (cI, 24, .inl g25)), (aT_points_xs, .inl (cI, 24, .inl T_points_xs)), (aT_points_ys, .inl (cI, 24, .inl T_points_ys)), (aT_pointsAbove, .inl (cI, 24, .inl r30.2)), (aT_roots, .inl (cI, 24, .inl g11)), (aT_seconds, .inl (cI, 24, .inl g13))]) rfl rfl rfl (by decide) (ws' := [(aT, .inr (2, [.ref aT_points, .int T_count, .ref aT_keys, .ref aT_aparts, .ref aT_roots, .ref aT_firsts, .ref aT_seconds, .ref aT_parts, .ref aT_firstSides, .ref aT_otherSides, .ref aT_joinsAbove, .ref aT_pointsAbove, .ref aT_pairs, .ref aT_links, .ref aT_nodes])), (aT_points, .inr (4, [.int T_points_count, .ref aT_points_xs, .ref aT_points_ys, .ref aT_points_ws])), (aT_aparts, .inl (cI, 24, .inl g8)), (aT_firstSides, .inl (cI, 24, .inl g18)), (aT_firsts, .inl (cI, 24, .inl g12)), (aT_joinsAbove, .inl (cI, 24, .inl r30.1)), (aT_keys, .inl (cJ, 24, .inr (.inl T_keys))), (aT_nodes, .inl (cI, 24, .inl T_nodes_197)), (aT_otherSides, .inl (cI, 24, .inl g20)), (aT_pairs, .inl (cJ, 24, .inr (.inl g16))), (aT_parts, .inl (cI, 24, .inl g25)), (aT_points_xs, .inl (cI, 24, .inl T_points_xs)), (aT_points_ys, .inl (cI, 24, .inl T_points_ys)), (aT_pointsAbove, .inl (cI, 24, .inl r30.2)), (aT_roots, .inl (cI, 24, .inl g11)), (aT_seconds, .inl (cI, 24, .inl g13))]) rfl (As := [.int v33, .int x4_197]) (rest := []) rfl rfl (Nat.le_of_ble_eq_true rfl) dX2_makeJoin_217 (fun hz_r34 => ?_)
        refine r_if_eq 234 S dX2_makeJoin_220 (by decide) (fun c35 => ?_) (fun c35 => ?_)
        · replace hm := iT c35 hm
          refine r_iincc S dX2_makeJoin_234 2 rfl (c0 := (1 : Int32)) rfl rfl (Nat.le_of_ble_eq_true rfl) (lv' := [(4, .int (x4_197 + (1 : Int32))), (0, .ref aT), (1, .int x1)]) rfl ?_
          refine r_goto 197 S dX2_makeJoin_237 (by decide) ?_
          refine r_lv [1, 2, 0] (lv' := [(0, .ref aT), (1, .int x1), (4, .int (x4_197 + (1 : Int32)))]) rfl ?_
          exact hk197 ((x4_197 + (1 : Int32)), T_nodes_197) (Option.some.inj hm).symm
        · replace hm := iF c35 hm
          refine r_aload_n S dX2_makeJoin_223 rfl 0 rfl ?_
          refine r_get (T := TX2) (ci := 2) S (tlA inlX2) rfl 0 rfl 14 (Nat.le_of_ble_eq_true rfl) (tl u62) rfl dX2_makeJoin_224 ?_
          refine r_iload S dX2_makeJoin_227 2 rfl ?_
          refine r_bipush (v := (100 : Int32)) S dX2_makeJoin_229 rfl ?_
          refine r_iload_n S dX2_makeJoin_231 rfl 1 rfl ?_
          refine r_iadd S dX2_makeJoin_232 ?_
          obtain ⟨g36, h_g36, hm⟩ := bS hm
          refine r_iast S h_g36 7 0 rfl rfl (ws' := [(aT, .inr (2, [.ref aT_points, .int T_count, .ref aT_keys, .ref aT_aparts, .ref aT_roots, .ref aT_firsts, .ref aT_seconds, .ref aT_parts, .ref aT_firstSides, .ref aT_otherSides, .ref aT_joinsAbove, .ref aT_pointsAbove, .ref aT_pairs, .ref aT_links, .ref aT_nodes])), (aT_points, .inr (4, [.int T_points_count, .ref aT_points_xs, .ref aT_points_ys, .ref aT_points_ws])), (aT_aparts, .inl (cI, 24, .inl g8)), (aT_firstSides, .inl (cI, 24, .inl g18)), (aT_firsts, .inl (cI, 24, .inl g12)), (aT_joinsAbove, .inl (cI, 24, .inl r30.1)), (aT_keys, .inl (cJ, 24, .inr (.inl T_keys))), (aT_nodes, .inl (cI, 24, .inl g36)), (aT_otherSides, .inl (cI, 24, .inl g20)), (aT_pairs, .inl (cJ, 24, .inr (.inl g16))), (aT_parts, .inl (cI, 24, .inl g25)), (aT_points_xs, .inl (cI, 24, .inl T_points_xs)), (aT_points_ys, .inl (cI, 24, .inl T_points_ys)), (aT_pointsAbove, .inl (cI, 24, .inl r30.2)), (aT_roots, .inl (cI, 24, .inl g11)), (aT_seconds, .inl (cI, 24, .inl g13))]) rfl dX2_makeJoin_233 ?_
          refine r_iincc S dX2_makeJoin_234 2 rfl (c0 := (1 : Int32)) rfl rfl (Nat.le_of_ble_eq_true rfl) (lv' := [(4, .int (x4_197 + (1 : Int32))), (0, .ref aT), (1, .int x1)]) rfl ?_
          refine r_goto 197 S dX2_makeJoin_237 (by decide) ?_
          refine r_lv [1, 2, 0] (lv' := [(0, .ref aT), (1, .int x1), (4, .int (x4_197 + (1 : Int32)))]) rfl ?_
          exact hk197 ((x4_197 + (1 : Int32)), g36) (Option.some.inj hm).symm
    · replace hm := iF c6 hm
      exact hR (T_aparts, T_firstSides, T_firsts, T_joinsAbove, T_nodes, T_otherSides, T_pairs, T_parts, T_pointsAbove, T_roots, T_seconds) _ _ hm dX2_makeJoin_48
def wtX2_rebuild : List Cond := Cond.code yX2_rebuild cX2_rebuild 2 none :: wsL_law
theorem ok_X2_rebuild : CallOK yX2_rebuild wtX2_rebuild RX2 0 2 := ⟨⟨_, _, _, rfl⟩, rfl, ⟨by decide +kernel, by decide +kernel⟩, by decide +kernel⟩
set_option maxRecDepth 100000 in
set_option maxHeartbeats 4000000 in
theorem c_X2_rebuild (l0 : Launch) (D0 : va_G) (cI cJ cZ cY : ClassId) (F : Nat) (aT aT_points aT_keys aT_aparts aT_roots aT_firsts aT_seconds aT_parts aT_firstSides aT_otherSides aT_joinsAbove aT_pointsAbove aT_pairs aT_links aT_nodes aT_points_xs aT_points_ys aT_points_ws : Nat) (T_count : Int32) (T_points_count : Int32) (T_aparts : Nat → Int32) (T_firstSides : Nat → Int32) (T_firsts : Nat → Int32) (T_joinsAbove : Nat → Int32) (T_keys : Nat → Int64) (T_links : Nat → Int64) (T_nodes : Nat → Int32) (T_otherSides : Nat → Int32) (T_pairs : Nat → Int64) (T_parts : Nat → Int32) (T_points_xs : Nat → Int32) (T_points_ys : Nat → Int32) (T_pointsAbove : Nat → Int32) (T_roots : Nat → Int32) (T_seconds : Nat → Int32) (res : Int32 × (Nat → Int32) × (Nat → Int32) × (Nat → Int32) × (Nat → Int32) × (Nat → Int64) × (Nat → Int64) × (Nat → Int32) × (Nat → Int32) × (Nat → Int64) × (Nat → Int32) × (Nat → Int32) × (Nat → Int32) × (Nat → Int32)) (hm : mX2_rebuild F T_count T_points_count T_aparts T_firstSides T_firsts T_joinsAbove T_keys T_links T_nodes T_otherSides T_pairs T_parts T_points_xs T_points_ys T_pointsAbove T_roots T_seconds = some res) : Cv D0 [(cI, .int), (cJ, .long), (cZ, .boolean), (cY, .array .int)] l0 yX2_rebuild wtX2_rebuild ({ frames := 4, cells := 0, slots := 0, locals := 93 }) [.ref aT] [(aT, .inr (2, [.ref aT_points, .int T_count, .ref aT_keys, .ref aT_aparts, .ref aT_roots, .ref aT_firsts, .ref aT_seconds, .ref aT_parts, .ref aT_firstSides, .ref aT_otherSides, .ref aT_joinsAbove, .ref aT_pointsAbove, .ref aT_pairs, .ref aT_links, .ref aT_nodes])), (aT_points, .inr (4, [.int T_points_count, .ref aT_points_xs, .ref aT_points_ys, .ref aT_points_ws])), (aT_aparts, .inl (cI, 24, .inl T_aparts)), (aT_firstSides, .inl (cI, 24, .inl T_firstSides)), (aT_firsts, .inl (cI, 24, .inl T_firsts)), (aT_joinsAbove, .inl (cI, 24, .inl T_joinsAbove)), (aT_keys, .inl (cJ, 24, .inr (.inl T_keys))), (aT_links, .inl (cJ, 24, .inr (.inl T_links))), (aT_nodes, .inl (cI, 24, .inl T_nodes)), (aT_otherSides, .inl (cI, 24, .inl T_otherSides)), (aT_pairs, .inl (cJ, 24, .inr (.inl T_pairs))), (aT_parts, .inl (cI, 24, .inl T_parts)), (aT_points_xs, .inl (cI, 24, .inl T_points_xs)), (aT_points_ys, .inl (cI, 24, .inl T_points_ys)), (aT_pointsAbove, .inl (cI, 24, .inl T_pointsAbove)), (aT_roots, .inl (cI, 24, .inl T_roots)), (aT_seconds, .inl (cI, 24, .inl T_seconds))] [(aT, .inr (2, [.ref aT_points, .int (res.1), .ref aT_keys, .ref aT_aparts, .ref aT_roots, .ref aT_firsts, .ref aT_seconds, .ref aT_parts, .ref aT_firstSides, .ref aT_otherSides, .ref aT_joinsAbove, .ref aT_pointsAbove, .ref aT_pairs, .ref aT_links, .ref aT_nodes])), (aT_points, .inr (4, [.int T_points_count, .ref aT_points_xs, .ref aT_points_ys, .ref aT_points_ws])), (aT_aparts, .inl (cI, 24, .inl (res.2.1))), (aT_firstSides, .inl (cI, 24, .inl (res.2.2.1))), (aT_firsts, .inl (cI, 24, .inl (res.2.2.2.1))), (aT_joinsAbove, .inl (cI, 24, .inl (res.2.2.2.2.1))), (aT_keys, .inl (cJ, 24, .inr (.inl (res.2.2.2.2.2.1)))), (aT_links, .inl (cJ, 24, .inr (.inl (res.2.2.2.2.2.2.1)))), (aT_nodes, .inl (cI, 24, .inl (res.2.2.2.2.2.2.2.1))), (aT_otherSides, .inl (cI, 24, .inl (res.2.2.2.2.2.2.2.2.1))), (aT_pairs, .inl (cJ, 24, .inr (.inl (res.2.2.2.2.2.2.2.2.2.1)))), (aT_parts, .inl (cI, 24, .inl (res.2.2.2.2.2.2.2.2.2.2.1))), (aT_points_xs, .inl (cI, 24, .inl T_points_xs)), (aT_points_ys, .inl (cI, 24, .inl T_points_ys)), (aT_pointsAbove, .inl (cI, 24, .inl (res.2.2.2.2.2.2.2.2.2.2.2.1))), (aT_roots, .inl (cI, 24, .inl (res.2.2.2.2.2.2.2.2.2.2.2.2.1))), (aT_seconds, .inl (cI, 24, .inl (res.2.2.2.2.2.2.2.2.2.2.2.2.2)))] := by
  refine Cv.ofv cX2_rebuild 2 (own := RX2) (by decide +kernel) rfl rfl (Nat.le_of_ble_eq_true rfl) ?_
  intro X S hR0
  have hR : ∀ (r9 : Int32 × (Nat → Int32) × (Nat → Int32) × (Nat → Int32) × (Nat → Int32) × (Nat → Int64) × (Nat → Int64) × (Nat → Int32) × (Nat → Int32) × (Nat → Int64) × (Nat → Int32) × (Nat → Int32) × (Nat → Int32) × (Nat → Int32)) (pc : Nat) (lv : List (Nat × Value)), some r9 = some res → decode cX2_rebuild pc = .ok (.return_, 1) → G X pc lv [] [(aT, .inr (2, [.ref aT_points, .int (r9.1), .ref aT_keys, .ref aT_aparts, .ref aT_roots, .ref aT_firsts, .ref aT_seconds, .ref aT_parts, .ref aT_firstSides, .ref aT_otherSides, .ref aT_joinsAbove, .ref aT_pointsAbove, .ref aT_pairs, .ref aT_links, .ref aT_nodes])), (aT_points, .inr (4, [.int T_points_count, .ref aT_points_xs, .ref aT_points_ys, .ref aT_points_ws])), (aT_aparts, .inl (cI, 24, .inl (r9.2.1))), (aT_firstSides, .inl (cI, 24, .inl (r9.2.2.1))), (aT_firsts, .inl (cI, 24, .inl (r9.2.2.2.1))), (aT_joinsAbove, .inl (cI, 24, .inl (r9.2.2.2.2.1))), (aT_keys, .inl (cJ, 24, .inr (.inl (r9.2.2.2.2.2.1)))), (aT_links, .inl (cJ, 24, .inr (.inl (r9.2.2.2.2.2.2.1)))), (aT_nodes, .inl (cI, 24, .inl (r9.2.2.2.2.2.2.2.1))), (aT_otherSides, .inl (cI, 24, .inl (r9.2.2.2.2.2.2.2.2.1))), (aT_pairs, .inl (cJ, 24, .inr (.inl (r9.2.2.2.2.2.2.2.2.2.1)))), (aT_parts, .inl (cI, 24, .inl (r9.2.2.2.2.2.2.2.2.2.2.1))), (aT_points_xs, .inl (cI, 24, .inl T_points_xs)), (aT_points_ys, .inl (cI, 24, .inl T_points_ys)), (aT_pointsAbove, .inl (cI, 24, .inl (r9.2.2.2.2.2.2.2.2.2.2.2.1))), (aT_roots, .inl (cI, 24, .inl (r9.2.2.2.2.2.2.2.2.2.2.2.2.1))), (aT_seconds, .inl (cI, 24, .inl (r9.2.2.2.2.2.2.2.2.2.2.2.2.2)))] := fun r9 pc lv h9 hd => by cases h9; exact hR0 pc lv hd
  show G X 0 [(0, .ref aT)] [] [(aT, .inr (2, [.ref aT_points, .int T_count, .ref aT_keys, .ref aT_aparts, .ref aT_roots, .ref aT_firsts, .ref aT_seconds, .ref aT_parts, .ref aT_firstSides, .ref aT_otherSides, .ref aT_joinsAbove, .ref aT_pointsAbove, .ref aT_pairs, .ref aT_links, .ref aT_nodes])), (aT_points, .inr (4, [.int T_points_count, .ref aT_points_xs, .ref aT_points_ys, .ref aT_points_ws])), (aT_aparts, .inl (cI, 24, .inl T_aparts)), (aT_firstSides, .inl (cI, 24, .inl T_firstSides)), (aT_firsts, .inl (cI, 24, .inl T_firsts)), (aT_joinsAbove, .inl (cI, 24, .inl T_joinsAbove)), (aT_keys, .inl (cJ, 24, .inr (.inl T_keys))), (aT_links, .inl (cJ, 24, .inr (.inl T_links))), (aT_nodes, .inl (cI, 24, .inl T_nodes)), (aT_otherSides, .inl (cI, 24, .inl T_otherSides)), (aT_pairs, .inl (cJ, 24, .inr (.inl T_pairs))), (aT_parts, .inl (cI, 24, .inl T_parts)), (aT_points_xs, .inl (cI, 24, .inl T_points_xs)), (aT_points_ys, .inl (cI, 24, .inl T_points_ys)), (aT_pointsAbove, .inl (cI, 24, .inl T_pointsAbove)), (aT_roots, .inl (cI, 24, .inl T_roots)), (aT_seconds, .inl (cI, 24, .inl T_seconds))]
  unfold mX2_rebuild at hm
  refine r_aload_n S dX2_rebuild_0 rfl 0 rfl ?_
  obtain ⟨r1, h_r1, hm⟩ := bS hm
  refine r_callvV S (c_X2_growTree l0 D0 cI cJ cZ cY F aT aT_points aT_keys aT_aparts aT_roots aT_firsts aT_seconds aT_parts aT_firstSides aT_otherSides aT_joinsAbove aT_pointsAbove aT_pairs aT_links aT_nodes aT_points_xs aT_points_ys aT_points_ws T_count T_points_count T_keys T_links T_points_xs T_points_ys _ h_r1) (gV u166 u167 u168 u11 u169) ok_X2_growTree ⟨rfl, rfl⟩ ⟨Nat.le_of_ble_eq_true rfl, Nat.le_of_ble_eq_true rfl⟩ [0, 1, 6, 7, 12, 13] [2, 3, 4, 5, 8, 9, 10, 11, 14, 15, 16] rfl (wr := [(aT_aparts, .inl (cI, 24, .inl T_aparts)), (aT_firstSides, .inl (cI, 24, .inl T_firstSides)), (aT_firsts, .inl (cI, 24, .inl T_firsts)), (aT_joinsAbove, .inl (cI, 24, .inl T_joinsAbove)), (aT_nodes, .inl (cI, 24, .inl T_nodes)), (aT_otherSides, .inl (cI, 24, .inl T_otherSides)), (aT_pairs, .inl (cJ, 24, .inr (.inl T_pairs))), (aT_parts, .inl (cI, 24, .inl T_parts)), (aT_pointsAbove, .inl (cI, 24, .inl T_pointsAbove)), (aT_roots, .inl (cI, 24, .inl T_roots)), (aT_seconds, .inl (cI, 24, .inl T_seconds))]) rfl rfl rfl (by decide) (ci := 2) (T := TX2) 0 rfl rfl (ws' := [(aT_aparts, .inl (cI, 24, .inl T_aparts)), (aT_firstSides, .inl (cI, 24, .inl T_firstSides)), (aT_firsts, .inl (cI, 24, .inl T_firsts)), (aT_joinsAbove, .inl (cI, 24, .inl T_joinsAbove)), (aT_nodes, .inl (cI, 24, .inl T_nodes)), (aT_otherSides, .inl (cI, 24, .inl T_otherSides)), (aT_pairs, .inl (cJ, 24, .inr (.inl T_pairs))), (aT_parts, .inl (cI, 24, .inl T_parts)), (aT_pointsAbove, .inl (cI, 24, .inl T_pointsAbove)), (aT_roots, .inl (cI, 24, .inl T_roots)), (aT_seconds, .inl (cI, 24, .inl T_seconds)), (aT, .inr (2, [.ref aT_points, .int r1.1, .ref aT_keys, .ref aT_aparts, .ref aT_roots, .ref aT_firsts, .ref aT_seconds, .ref aT_parts, .ref aT_firstSides, .ref aT_otherSides, .ref aT_joinsAbove, .ref aT_pointsAbove, .ref aT_pairs, .ref aT_links, .ref aT_nodes])), (aT_points, .inr (4, [.int T_points_count, .ref aT_points_xs, .ref aT_points_ys, .ref aT_points_ws])), (aT_keys, .inl (cJ, 24, .inr (.inl r1.2.1))), (aT_links, .inl (cJ, 24, .inr (.inl r1.2.2))), (aT_points_xs, .inl (cI, 24, .inl T_points_xs)), (aT_points_ys, .inl (cI, 24, .inl T_points_ys))]) rfl (As := []) (rest := []) rfl rfl (Nat.le_of_ble_eq_true rfl) dX2_rebuild_1 ?_
  refine r_iconst (v := (0 : Int32)) S dX2_rebuild_4 rfl ?_
  refine r_istore_n S dX2_rebuild_5 rfl (Nat.le_of_ble_eq_true rfl) (lv' := [(1, .int (0 : Int32)), (0, .ref aT)]) rfl ?_
  obtain ⟨q2, hl6, hm⟩ := bS hm
  have hE6_37 : ∀ (r2 : (Nat → Int32) × (Nat → Int32)), r2 = q2 → G X 37 [(0, .ref aT)] [] [(aT, .inr (2, [.ref aT_points, .int r1.1, .ref aT_keys, .ref aT_aparts, .ref aT_roots, .ref aT_firsts, .ref aT_seconds, .ref aT_parts, .ref aT_firstSides, .ref aT_otherSides, .ref aT_joinsAbove, .ref aT_pointsAbove, .ref aT_pairs, .ref aT_links, .ref aT_nodes])), (aT_points, .inr (4, [.int T_points_count, .ref aT_points_xs, .ref aT_points_ys, .ref aT_points_ws])), (aT_aparts, .inl (cI, 24, .inl T_aparts)), (aT_firstSides, .inl (cI, 24, .inl T_firstSides)), (aT_firsts, .inl (cI, 24, .inl T_firsts)), (aT_joinsAbove, .inl (cI, 24, .inl T_joinsAbove)), (aT_keys, .inl (cJ, 24, .inr (.inl r1.2.1))), (aT_links, .inl (cJ, 24, .inr (.inl r1.2.2))), (aT_nodes, .inl (cI, 24, .inl r2.1)), (aT_otherSides, .inl (cI, 24, .inl T_otherSides)), (aT_pairs, .inl (cJ, 24, .inr (.inl T_pairs))), (aT_parts, .inl (cI, 24, .inl T_parts)), (aT_points_xs, .inl (cI, 24, .inl T_points_xs)), (aT_points_ys, .inl (cI, 24, .inl T_points_ys)), (aT_pointsAbove, .inl (cI, 24, .inl r2.2)), (aT_roots, .inl (cI, 24, .inl T_roots)), (aT_seconds, .inl (cI, 24, .inl T_seconds))] := by
    intro r2 h9
    subst h9
    refine r_iconst (v := (0 : Int32)) S dX2_rebuild_37 rfl ?_
    refine r_istore_n S dX2_rebuild_38 rfl (Nat.le_of_ble_eq_true rfl) (lv' := [(1, .int (0 : Int32)), (0, .ref aT)]) rfl ?_
    have hR39 : ∀ (r9 : Int32 × (Nat → Int32) × (Nat → Int32) × (Nat → Int32) × (Nat → Int32) × (Nat → Int64) × (Nat → Int64) × (Nat → Int32) × (Nat → Int32) × (Nat → Int64) × (Nat → Int32) × (Nat → Int32) × (Nat → Int32) × (Nat → Int32)) (pc : Nat) (lv : List (Nat × Value)), r9 = res → decode cX2_rebuild pc = .ok (.return_, 1) → G X pc lv [] [(aT, .inr (2, [.ref aT_points, .int (r9.1), .ref aT_keys, .ref aT_aparts, .ref aT_roots, .ref aT_firsts, .ref aT_seconds, .ref aT_parts, .ref aT_firstSides, .ref aT_otherSides, .ref aT_joinsAbove, .ref aT_pointsAbove, .ref aT_pairs, .ref aT_links, .ref aT_nodes])), (aT_points, .inr (4, [.int T_points_count, .ref aT_points_xs, .ref aT_points_ys, .ref aT_points_ws])), (aT_aparts, .inl (cI, 24, .inl (r9.2.1))), (aT_firstSides, .inl (cI, 24, .inl (r9.2.2.1))), (aT_firsts, .inl (cI, 24, .inl (r9.2.2.2.1))), (aT_joinsAbove, .inl (cI, 24, .inl (r9.2.2.2.2.1))), (aT_keys, .inl (cJ, 24, .inr (.inl (r9.2.2.2.2.2.1)))), (aT_links, .inl (cJ, 24, .inr (.inl (r9.2.2.2.2.2.2.1)))), (aT_nodes, .inl (cI, 24, .inl (r9.2.2.2.2.2.2.2.1))), (aT_otherSides, .inl (cI, 24, .inl (r9.2.2.2.2.2.2.2.2.1))), (aT_pairs, .inl (cJ, 24, .inr (.inl (r9.2.2.2.2.2.2.2.2.2.1)))), (aT_parts, .inl (cI, 24, .inl (r9.2.2.2.2.2.2.2.2.2.2.1))), (aT_points_xs, .inl (cI, 24, .inl T_points_xs)), (aT_points_ys, .inl (cI, 24, .inl T_points_ys)), (aT_pointsAbove, .inl (cI, 24, .inl (r9.2.2.2.2.2.2.2.2.2.2.2.1))), (aT_roots, .inl (cI, 24, .inl (r9.2.2.2.2.2.2.2.2.2.2.2.2.1))), (aT_seconds, .inl (cI, 24, .inl (r9.2.2.2.2.2.2.2.2.2.2.2.2.2)))] := fun r9 pc lv h9 hd => hR r9 pc lv (congrArg some h9) hd
    refine r_lv [1, 0] (lv' := [(0, .ref aT), (1, .int (0 : Int32))]) rfl ?_
    refine loopG (r0 := res) (Gd := fun s9 => G X 39 [(0, .ref aT), (1, .int s9.1)] [] [(aT, .inr (2, [.ref aT_points, .int r1.1, .ref aT_keys, .ref aT_aparts, .ref aT_roots, .ref aT_firsts, .ref aT_seconds, .ref aT_parts, .ref aT_firstSides, .ref aT_otherSides, .ref aT_joinsAbove, .ref aT_pointsAbove, .ref aT_pairs, .ref aT_links, .ref aT_nodes])), (aT_points, .inr (4, [.int T_points_count, .ref aT_points_xs, .ref aT_points_ys, .ref aT_points_ws])), (aT_aparts, .inl (cI, 24, .inl s9.2.1)), (aT_firstSides, .inl (cI, 24, .inl s9.2.2.1)), (aT_firsts, .inl (cI, 24, .inl s9.2.2.2.1)), (aT_joinsAbove, .inl (cI, 24, .inl s9.2.2.2.2.1)), (aT_keys, .inl (cJ, 24, .inr (.inl r1.2.1))), (aT_links, .inl (cJ, 24, .inr (.inl r1.2.2))), (aT_nodes, .inl (cI, 24, .inl s9.2.2.2.2.2.1)), (aT_otherSides, .inl (cI, 24, .inl s9.2.2.2.2.2.2.1)), (aT_pairs, .inl (cJ, 24, .inr (.inl s9.2.2.2.2.2.2.2.1))), (aT_parts, .inl (cI, 24, .inl s9.2.2.2.2.2.2.2.2.1)), (aT_points_xs, .inl (cI, 24, .inl T_points_xs)), (aT_points_ys, .inl (cI, 24, .inl T_points_ys)), (aT_pointsAbove, .inl (cI, 24, .inl s9.2.2.2.2.2.2.2.2.2.1)), (aT_roots, .inl (cI, 24, .inl s9.2.2.2.2.2.2.2.2.2.2.1)), (aT_seconds, .inl (cI, 24, .inl s9.2.2.2.2.2.2.2.2.2.2.2))]) ?_ _ _ hm
    rintro ⟨x1_39, T_aparts_39, T_firstSides_39, T_firsts_39, T_joinsAbove_39, T_nodes_39, T_otherSides_39, T_pairs_39, T_parts_39, T_pointsAbove_39, T_roots_39, T_seconds_39⟩ b39 hm hk39 hr39
    replace hm : mX2_rebuild_b39 F T_points_count T_points_xs T_points_ys r1.1 r1.2.1 r1.2.2 x1_39 T_aparts_39 T_firstSides_39 T_firsts_39 T_joinsAbove_39 T_nodes_39 T_otherSides_39 T_pairs_39 T_parts_39 T_pointsAbove_39 T_roots_39 T_seconds_39 = some b39 := hm
    unfold mX2_rebuild_b39 at hm
    show G X 39 [(0, .ref aT), (1, .int x1_39)] [] [(aT, .inr (2, [.ref aT_points, .int r1.1, .ref aT_keys, .ref aT_aparts, .ref aT_roots, .ref aT_firsts, .ref aT_seconds, .ref aT_parts, .ref aT_firstSides, .ref aT_otherSides, .ref aT_joinsAbove, .ref aT_pointsAbove, .ref aT_pairs, .ref aT_links, .ref aT_nodes])), (aT_points, .inr (4, [.int T_points_count, .ref aT_points_xs, .ref aT_points_ys, .ref aT_points_ws])), (aT_aparts, .inl (cI, 24, .inl T_aparts_39)), (aT_firstSides, .inl (cI, 24, .inl T_firstSides_39)), (aT_firsts, .inl (cI, 24, .inl T_firsts_39)), (aT_joinsAbove, .inl (cI, 24, .inl T_joinsAbove_39)), (aT_keys, .inl (cJ, 24, .inr (.inl r1.2.1))), (aT_links, .inl (cJ, 24, .inr (.inl r1.2.2))), (aT_nodes, .inl (cI, 24, .inl T_nodes_39)), (aT_otherSides, .inl (cI, 24, .inl T_otherSides_39)), (aT_pairs, .inl (cJ, 24, .inr (.inl T_pairs_39))), (aT_parts, .inl (cI, 24, .inl T_parts_39)), (aT_points_xs, .inl (cI, 24, .inl T_points_xs)), (aT_points_ys, .inl (cI, 24, .inl T_points_ys)), (aT_pointsAbove, .inl (cI, 24, .inl T_pointsAbove_39)), (aT_roots, .inl (cI, 24, .inl T_roots_39)), (aT_seconds, .inl (cI, 24, .inl T_seconds_39))]
    refine r_iload_n S dX2_rebuild_39 rfl 1 rfl ?_
    refine r_aload_n S dX2_rebuild_40 rfl 0 rfl ?_
    refine r_get (T := TX2) (ci := 2) S (tlA inlX2) rfl 0 rfl 1 (Nat.le_of_ble_eq_true rfl) (tl u48) rfl dX2_rebuild_41 ?_
    refine r_icmp_ge 58 S dX2_rebuild_44 (by decide) (fun c7 => ?_) (fun c7 => ?_)
    · replace hm := iT c7 hm
      exact hR39 (r1.1, T_aparts_39, T_firstSides_39, T_firsts_39, T_joinsAbove_39, r1.2.1, r1.2.2, T_nodes_39, T_otherSides_39, T_pairs_39, T_parts_39, T_pointsAbove_39, T_roots_39, T_seconds_39) _ _ (hr39 _ (Option.some.inj hm).symm) dX2_rebuild_58
    · replace hm := iF c7 hm
      refine r_aload_n S dX2_rebuild_47 rfl 0 rfl ?_
      refine r_iload_n S dX2_rebuild_48 rfl 1 rfl ?_
      obtain ⟨r8, h_r8, hm⟩ := bS hm
      refine r_callvV S (c_X2_makeJoin l0 D0 cI cJ cZ cY F aT aT_points aT_keys aT_aparts aT_roots aT_firsts aT_seconds aT_parts aT_firstSides aT_otherSides aT_joinsAbove aT_pointsAbove aT_pairs aT_links aT_nodes aT_points_xs aT_points_ys aT_points_ws r1.1 T_points_count T_aparts_39 T_firstSides_39 T_firsts_39 T_joinsAbove_39 r1.2.1 T_nodes_39 T_otherSides_39 T_pairs_39 T_parts_39 T_points_xs T_points_ys T_pointsAbove_39 T_roots_39 T_seconds_39 x1_39 _ h_r8) (gV u204 u205 u206 u11 u207) ok_X2_makeJoin ⟨rfl, rfl⟩ ⟨Nat.le_of_ble_eq_true rfl, Nat.le_of_ble_eq_true rfl⟩ [0, 1, 2, 3, 4, 5, 6, 8, 9, 10, 11, 12, 13, 14, 15, 16] [7] rfl (wr := [(aT_links, .inl (cJ, 24, .inr (.inl r1.2.2)))]) rfl rfl rfl (by decide) (ci := 2) (T := TX2) 0 rfl rfl (ws' := [(aT_links, .inl (cJ, 24, .inr (.inl r1.2.2))), (aT, .inr (2, [.ref aT_points, .int r1.1, .ref aT_keys, .ref aT_aparts, .ref aT_roots, .ref aT_firsts, .ref aT_seconds, .ref aT_parts, .ref aT_firstSides, .ref aT_otherSides, .ref aT_joinsAbove, .ref aT_pointsAbove, .ref aT_pairs, .ref aT_links, .ref aT_nodes])), (aT_points, .inr (4, [.int T_points_count, .ref aT_points_xs, .ref aT_points_ys, .ref aT_points_ws])), (aT_aparts, .inl (cI, 24, .inl r8.1)), (aT_firstSides, .inl (cI, 24, .inl r8.2.1)), (aT_firsts, .inl (cI, 24, .inl r8.2.2.1)), (aT_joinsAbove, .inl (cI, 24, .inl r8.2.2.2.1)), (aT_keys, .inl (cJ, 24, .inr (.inl r1.2.1))), (aT_nodes, .inl (cI, 24, .inl r8.2.2.2.2.1)), (aT_otherSides, .inl (cI, 24, .inl r8.2.2.2.2.2.1)), (aT_pairs, .inl (cJ, 24, .inr (.inl r8.2.2.2.2.2.2.1))), (aT_parts, .inl (cI, 24, .inl r8.2.2.2.2.2.2.2.1)), (aT_points_xs, .inl (cI, 24, .inl T_points_xs)), (aT_points_ys, .inl (cI, 24, .inl T_points_ys)), (aT_pointsAbove, .inl (cI, 24, .inl r8.2.2.2.2.2.2.2.2.1)), (aT_roots, .inl (cI, 24, .inl r8.2.2.2.2.2.2.2.2.2.1)), (aT_seconds, .inl (cI, 24, .inl r8.2.2.2.2.2.2.2.2.2.2))]) rfl (As := [.int x1_39]) (rest := []) rfl rfl (Nat.le_of_ble_eq_true rfl) dX2_rebuild_49 ?_
      refine r_iincc S dX2_rebuild_52 1 rfl (c0 := (1 : Int32)) rfl rfl (Nat.le_of_ble_eq_true rfl) (lv' := [(1, .int (x1_39 + (1 : Int32))), (0, .ref aT)]) rfl ?_
      refine r_goto 39 S dX2_rebuild_55 (by decide) ?_
      refine r_perm [1, 2, 3, 4, 5, 6, 7, 0, 8, 9, 10, 11, 12, 13, 14, 15, 16] (ws' := [(aT, .inr (2, [.ref aT_points, .int r1.1, .ref aT_keys, .ref aT_aparts, .ref aT_roots, .ref aT_firsts, .ref aT_seconds, .ref aT_parts, .ref aT_firstSides, .ref aT_otherSides, .ref aT_joinsAbove, .ref aT_pointsAbove, .ref aT_pairs, .ref aT_links, .ref aT_nodes])), (aT_points, .inr (4, [.int T_points_count, .ref aT_points_xs, .ref aT_points_ys, .ref aT_points_ws])), (aT_aparts, .inl (cI, 24, .inl r8.1)), (aT_firstSides, .inl (cI, 24, .inl r8.2.1)), (aT_firsts, .inl (cI, 24, .inl r8.2.2.1)), (aT_joinsAbove, .inl (cI, 24, .inl r8.2.2.2.1)), (aT_keys, .inl (cJ, 24, .inr (.inl r1.2.1))), (aT_links, .inl (cJ, 24, .inr (.inl r1.2.2))), (aT_nodes, .inl (cI, 24, .inl r8.2.2.2.2.1)), (aT_otherSides, .inl (cI, 24, .inl r8.2.2.2.2.2.1)), (aT_pairs, .inl (cJ, 24, .inr (.inl r8.2.2.2.2.2.2.1))), (aT_parts, .inl (cI, 24, .inl r8.2.2.2.2.2.2.2.1)), (aT_points_xs, .inl (cI, 24, .inl T_points_xs)), (aT_points_ys, .inl (cI, 24, .inl T_points_ys)), (aT_pointsAbove, .inl (cI, 24, .inl r8.2.2.2.2.2.2.2.2.1)), (aT_roots, .inl (cI, 24, .inl r8.2.2.2.2.2.2.2.2.2.1)), (aT_seconds, .inl (cI, 24, .inl r8.2.2.2.2.2.2.2.2.2.2))]) rfl rfl ?_
      refine r_lv [1, 0] (lv' := [(0, .ref aT), (1, .int (x1_39 + (1 : Int32)))]) rfl ?_
      exact hk39 ((x1_39 + (1 : Int32)), r8.1, r8.2.1, r8.2.2.1, r8.2.2.2.1, r8.2.2.2.2.1, r8.2.2.2.2.2.1, r8.2.2.2.2.2.2.1, r8.2.2.2.2.2.2.2.1, r8.2.2.2.2.2.2.2.2.1, r8.2.2.2.2.2.2.2.2.2.1, r8.2.2.2.2.2.2.2.2.2.2) (Option.some.inj hm).symm
  refine r_perm [11, 12, 0, 1, 2, 3, 13, 14, 4, 5, 6, 7, 15, 16, 8, 9, 10] (ws' := [(aT, .inr (2, [.ref aT_points, .int r1.1, .ref aT_keys, .ref aT_aparts, .ref aT_roots, .ref aT_firsts, .ref aT_seconds, .ref aT_parts, .ref aT_firstSides, .ref aT_otherSides, .ref aT_joinsAbove, .ref aT_pointsAbove, .ref aT_pairs, .ref aT_links, .ref aT_nodes])), (aT_points, .inr (4, [.int T_points_count, .ref aT_points_xs, .ref aT_points_ys, .ref aT_points_ws])), (aT_aparts, .inl (cI, 24, .inl T_aparts)), (aT_firstSides, .inl (cI, 24, .inl T_firstSides)), (aT_firsts, .inl (cI, 24, .inl T_firsts)), (aT_joinsAbove, .inl (cI, 24, .inl T_joinsAbove)), (aT_keys, .inl (cJ, 24, .inr (.inl r1.2.1))), (aT_links, .inl (cJ, 24, .inr (.inl r1.2.2))), (aT_nodes, .inl (cI, 24, .inl T_nodes)), (aT_otherSides, .inl (cI, 24, .inl T_otherSides)), (aT_pairs, .inl (cJ, 24, .inr (.inl T_pairs))), (aT_parts, .inl (cI, 24, .inl T_parts)), (aT_points_xs, .inl (cI, 24, .inl T_points_xs)), (aT_points_ys, .inl (cI, 24, .inl T_points_ys)), (aT_pointsAbove, .inl (cI, 24, .inl T_pointsAbove)), (aT_roots, .inl (cI, 24, .inl T_roots)), (aT_seconds, .inl (cI, 24, .inl T_seconds))]) rfl rfl ?_
  refine r_lv [1, 0] (lv' := [(0, .ref aT), (1, .int (0 : Int32))]) rfl ?_
  refine loopG (r0 := q2) (Gd := fun s9 => G X 6 [(0, .ref aT), (1, .int s9.1)] [] [(aT, .inr (2, [.ref aT_points, .int r1.1, .ref aT_keys, .ref aT_aparts, .ref aT_roots, .ref aT_firsts, .ref aT_seconds, .ref aT_parts, .ref aT_firstSides, .ref aT_otherSides, .ref aT_joinsAbove, .ref aT_pointsAbove, .ref aT_pairs, .ref aT_links, .ref aT_nodes])), (aT_points, .inr (4, [.int T_points_count, .ref aT_points_xs, .ref aT_points_ys, .ref aT_points_ws])), (aT_aparts, .inl (cI, 24, .inl T_aparts)), (aT_firstSides, .inl (cI, 24, .inl T_firstSides)), (aT_firsts, .inl (cI, 24, .inl T_firsts)), (aT_joinsAbove, .inl (cI, 24, .inl T_joinsAbove)), (aT_keys, .inl (cJ, 24, .inr (.inl r1.2.1))), (aT_links, .inl (cJ, 24, .inr (.inl r1.2.2))), (aT_nodes, .inl (cI, 24, .inl s9.2.1)), (aT_otherSides, .inl (cI, 24, .inl T_otherSides)), (aT_pairs, .inl (cJ, 24, .inr (.inl T_pairs))), (aT_parts, .inl (cI, 24, .inl T_parts)), (aT_points_xs, .inl (cI, 24, .inl T_points_xs)), (aT_points_ys, .inl (cI, 24, .inl T_points_ys)), (aT_pointsAbove, .inl (cI, 24, .inl s9.2.2)), (aT_roots, .inl (cI, 24, .inl T_roots)), (aT_seconds, .inl (cI, 24, .inl T_seconds))]) ?_ _ _ hl6
  rintro ⟨x1_6, T_nodes_6, T_pointsAbove_6⟩ b6 hm hk6 hr6
  replace hm : mX2_rebuild_b6 F T_points_count x1_6 T_nodes_6 T_pointsAbove_6 = some b6 := hm
  unfold mX2_rebuild_b6 at hm
  show G X 6 [(0, .ref aT), (1, .int x1_6)] [] [(aT, .inr (2, [.ref aT_points, .int r1.1, .ref aT_keys, .ref aT_aparts, .ref aT_roots, .ref aT_firsts, .ref aT_seconds, .ref aT_parts, .ref aT_firstSides, .ref aT_otherSides, .ref aT_joinsAbove, .ref aT_pointsAbove, .ref aT_pairs, .ref aT_links, .ref aT_nodes])), (aT_points, .inr (4, [.int T_points_count, .ref aT_points_xs, .ref aT_points_ys, .ref aT_points_ws])), (aT_aparts, .inl (cI, 24, .inl T_aparts)), (aT_firstSides, .inl (cI, 24, .inl T_firstSides)), (aT_firsts, .inl (cI, 24, .inl T_firsts)), (aT_joinsAbove, .inl (cI, 24, .inl T_joinsAbove)), (aT_keys, .inl (cJ, 24, .inr (.inl r1.2.1))), (aT_links, .inl (cJ, 24, .inr (.inl r1.2.2))), (aT_nodes, .inl (cI, 24, .inl T_nodes_6)), (aT_otherSides, .inl (cI, 24, .inl T_otherSides)), (aT_pairs, .inl (cJ, 24, .inr (.inl T_pairs))), (aT_parts, .inl (cI, 24, .inl T_parts)), (aT_points_xs, .inl (cI, 24, .inl T_points_xs)), (aT_points_ys, .inl (cI, 24, .inl T_points_ys)), (aT_pointsAbove, .inl (cI, 24, .inl T_pointsAbove_6)), (aT_roots, .inl (cI, 24, .inl T_roots)), (aT_seconds, .inl (cI, 24, .inl T_seconds))]
  refine r_iload_n S dX2_rebuild_6 rfl 1 rfl ?_
  refine r_aload_n S dX2_rebuild_7 rfl 0 rfl ?_
  refine r_get (T := TX2) (ci := 2) S (tlA inlX2) rfl 0 rfl 0 (Nat.le_of_ble_eq_true rfl) (tl u47) rfl dX2_rebuild_8 ?_
  refine r_get (T := TX4) (ci := 4) S (tlA inlX4) rfl 1 rfl 0 (Nat.le_of_ble_eq_true rfl) (tl u165) rfl dX2_rebuild_11 ?_
  refine r_icmp_ge 37 S dX2_rebuild_14 (by decide) (fun c3 => ?_) (fun c3 => ?_)
  · replace hm := iT c3 hm
    refine r_lv [0] (lv' := [(0, .ref aT)]) rfl ?_
    exact hE6_37 (T_nodes_6, T_pointsAbove_6) (hr6 _ (Option.some.inj hm).symm)
  · replace hm := iF c3 hm
    refine r_aload_n S dX2_rebuild_17 rfl 0 rfl ?_
    refine r_get (T := TX2) (ci := 2) S (tlA inlX2) rfl 0 rfl 14 (Nat.le_of_ble_eq_true rfl) (tl u62) rfl dX2_rebuild_18 ?_
    refine r_iload_n S dX2_rebuild_21 rfl 1 rfl ?_
    refine r_iload_n S dX2_rebuild_22 rfl 1 rfl ?_
    obtain ⟨g4, h_g4, hm⟩ := bS hm
    refine r_iast S h_g4 8 0 rfl rfl (ws' := [(aT, .inr (2, [.ref aT_points, .int r1.1, .ref aT_keys, .ref aT_aparts, .ref aT_roots, .ref aT_firsts, .ref aT_seconds, .ref aT_parts, .ref aT_firstSides, .ref aT_otherSides, .ref aT_joinsAbove, .ref aT_pointsAbove, .ref aT_pairs, .ref aT_links, .ref aT_nodes])), (aT_points, .inr (4, [.int T_points_count, .ref aT_points_xs, .ref aT_points_ys, .ref aT_points_ws])), (aT_aparts, .inl (cI, 24, .inl T_aparts)), (aT_firstSides, .inl (cI, 24, .inl T_firstSides)), (aT_firsts, .inl (cI, 24, .inl T_firsts)), (aT_joinsAbove, .inl (cI, 24, .inl T_joinsAbove)), (aT_keys, .inl (cJ, 24, .inr (.inl r1.2.1))), (aT_links, .inl (cJ, 24, .inr (.inl r1.2.2))), (aT_nodes, .inl (cI, 24, .inl g4)), (aT_otherSides, .inl (cI, 24, .inl T_otherSides)), (aT_pairs, .inl (cJ, 24, .inr (.inl T_pairs))), (aT_parts, .inl (cI, 24, .inl T_parts)), (aT_points_xs, .inl (cI, 24, .inl T_points_xs)), (aT_points_ys, .inl (cI, 24, .inl T_points_ys)), (aT_pointsAbove, .inl (cI, 24, .inl T_pointsAbove_6)), (aT_roots, .inl (cI, 24, .inl T_roots)), (aT_seconds, .inl (cI, 24, .inl T_seconds))]) rfl dX2_rebuild_23 ?_
    refine r_aload_n S dX2_rebuild_24 rfl 0 rfl ?_
    refine r_get (T := TX2) (ci := 2) S (tlA inlX2) rfl 0 rfl 11 (Nat.le_of_ble_eq_true rfl) (tl u59) rfl dX2_rebuild_25 ?_
    refine r_iload_n S dX2_rebuild_28 rfl 1 rfl ?_
    refine r_iconst (v := (-1 : Int32)) S dX2_rebuild_29 rfl ?_
    obtain ⟨g5, h_g5, hm⟩ := bS hm
    refine r_iast S h_g5 14 0 rfl rfl (ws' := [(aT, .inr (2, [.ref aT_points, .int r1.1, .ref aT_keys, .ref aT_aparts, .ref aT_roots, .ref aT_firsts, .ref aT_seconds, .ref aT_parts, .ref aT_firstSides, .ref aT_otherSides, .ref aT_joinsAbove, .ref aT_pointsAbove, .ref aT_pairs, .ref aT_links, .ref aT_nodes])), (aT_points, .inr (4, [.int T_points_count, .ref aT_points_xs, .ref aT_points_ys, .ref aT_points_ws])), (aT_aparts, .inl (cI, 24, .inl T_aparts)), (aT_firstSides, .inl (cI, 24, .inl T_firstSides)), (aT_firsts, .inl (cI, 24, .inl T_firsts)), (aT_joinsAbove, .inl (cI, 24, .inl T_joinsAbove)), (aT_keys, .inl (cJ, 24, .inr (.inl r1.2.1))), (aT_links, .inl (cJ, 24, .inr (.inl r1.2.2))), (aT_nodes, .inl (cI, 24, .inl g4)), (aT_otherSides, .inl (cI, 24, .inl T_otherSides)), (aT_pairs, .inl (cJ, 24, .inr (.inl T_pairs))), (aT_parts, .inl (cI, 24, .inl T_parts)), (aT_points_xs, .inl (cI, 24, .inl T_points_xs)), (aT_points_ys, .inl (cI, 24, .inl T_points_ys)), (aT_pointsAbove, .inl (cI, 24, .inl g5)), (aT_roots, .inl (cI, 24, .inl T_roots)), (aT_seconds, .inl (cI, 24, .inl T_seconds))]) rfl dX2_rebuild_30 ?_
    refine r_iincc S dX2_rebuild_31 1 rfl (c0 := (1 : Int32)) rfl rfl (Nat.le_of_ble_eq_true rfl) (lv' := [(1, .int (x1_6 + (1 : Int32))), (0, .ref aT)]) rfl ?_
    refine r_goto 6 S dX2_rebuild_34 (by decide) ?_
    refine r_lv [1, 0] (lv' := [(0, .ref aT), (1, .int (x1_6 + (1 : Int32)))]) rfl ?_
    exact hk6 ((x1_6 + (1 : Int32)), g4, g5) (Option.some.inj hm).symm
def wtX2_joinAbove : List Cond := Cond.code yX2_joinAbove cX2_joinAbove 3 (some .int) :: wsL_law
theorem ok_X2_joinAbove : CallOK yX2_joinAbove wtX2_joinAbove RX2 1 3 := ⟨⟨_, _, _, rfl⟩, rfl, ⟨by decide +kernel, by decide +kernel⟩, by decide +kernel⟩
set_option maxRecDepth 100000 in
set_option maxHeartbeats 4000000 in
theorem c_X2_joinAbove (l0 : Launch) (D0 : va_G) (cI cJ cZ cY : ClassId) (F : Nat) (aT aT_points aT_keys aT_aparts aT_roots aT_firsts aT_seconds aT_parts aT_firstSides aT_otherSides aT_joinsAbove aT_pointsAbove aT_pairs aT_links aT_nodes : Nat) (T_count : Int32) (T_joinsAbove : Nat → Int32) (T_pointsAbove : Nat → Int32) (x1 : Int32) (res : Int32) (hm : mX2_joinAbove F x1 T_joinsAbove T_pointsAbove = some res) : Ci D0 [(cI, .int), (cJ, .long), (cZ, .boolean), (cY, .array .int)] l0 yX2_joinAbove wtX2_joinAbove ({ frames := 1, cells := 0, slots := 0, locals := 20 }) [.ref aT, .int x1] (res) [(aT, .inr (2, [.ref aT_points, .int T_count, .ref aT_keys, .ref aT_aparts, .ref aT_roots, .ref aT_firsts, .ref aT_seconds, .ref aT_parts, .ref aT_firstSides, .ref aT_otherSides, .ref aT_joinsAbove, .ref aT_pointsAbove, .ref aT_pairs, .ref aT_links, .ref aT_nodes])), (aT_joinsAbove, .inl (cI, 24, .inl T_joinsAbove)), (aT_pointsAbove, .inl (cI, 24, .inl T_pointsAbove))] [(aT, .inr (2, [.ref aT_points, .int T_count, .ref aT_keys, .ref aT_aparts, .ref aT_roots, .ref aT_firsts, .ref aT_seconds, .ref aT_parts, .ref aT_firstSides, .ref aT_otherSides, .ref aT_joinsAbove, .ref aT_pointsAbove, .ref aT_pairs, .ref aT_links, .ref aT_nodes])), (aT_joinsAbove, .inl (cI, 24, .inl T_joinsAbove)), (aT_pointsAbove, .inl (cI, 24, .inl T_pointsAbove))] := by
  refine Ci.ofi cX2_joinAbove 3 (own := RX2) (by decide +kernel) rfl rfl (Nat.le_of_ble_eq_true rfl) ?_
  intro X S hR0
  have hR : ∀ (r9 : Int32) (pc : Nat) (lv : List (Nat × Value)), some r9 = some res → decode cX2_joinAbove pc = .ok (.ireturn, 1) → G X pc lv [.int (r9)] [(aT, .inr (2, [.ref aT_points, .int T_count, .ref aT_keys, .ref aT_aparts, .ref aT_roots, .ref aT_firsts, .ref aT_seconds, .ref aT_parts, .ref aT_firstSides, .ref aT_otherSides, .ref aT_joinsAbove, .ref aT_pointsAbove, .ref aT_pairs, .ref aT_links, .ref aT_nodes])), (aT_joinsAbove, .inl (cI, 24, .inl T_joinsAbove)), (aT_pointsAbove, .inl (cI, 24, .inl T_pointsAbove))] := fun r9 pc lv h9 hd => by cases h9; exact hR0 pc lv hd
  show G X 0 [(0, .ref aT), (1, .int x1)] [] [(aT, .inr (2, [.ref aT_points, .int T_count, .ref aT_keys, .ref aT_aparts, .ref aT_roots, .ref aT_firsts, .ref aT_seconds, .ref aT_parts, .ref aT_firstSides, .ref aT_otherSides, .ref aT_joinsAbove, .ref aT_pointsAbove, .ref aT_pairs, .ref aT_links, .ref aT_nodes])), (aT_joinsAbove, .inl (cI, 24, .inl T_joinsAbove)), (aT_pointsAbove, .inl (cI, 24, .inl T_pointsAbove))]
  unfold mX2_joinAbove at hm
  refine r_iload_n S dX2_joinAbove_0 rfl 1 rfl ?_
  obtain ⟨r1, h_r1, hm⟩ := bS hm
  refine r_calliS S (c_X2_joinOf l0 D0 cI cJ cZ cY F x1 _ h_r1) (gS u222 u223 u11 u224) ok_X2_joinOf ⟨rfl, rfl⟩ ⟨Nat.le_of_ble_eq_true rfl, Nat.le_of_ble_eq_true rfl⟩ [] [0, 1, 2] rfl (wr := [(aT, .inr (2, [.ref aT_points, .int T_count, .ref aT_keys, .ref aT_aparts, .ref aT_roots, .ref aT_firsts, .ref aT_seconds, .ref aT_parts, .ref aT_firstSides, .ref aT_otherSides, .ref aT_joinsAbove, .ref aT_pointsAbove, .ref aT_pairs, .ref aT_links, .ref aT_nodes])), (aT_joinsAbove, .inl (cI, 24, .inl T_joinsAbove)), (aT_pointsAbove, .inl (cI, 24, .inl T_pointsAbove))]) rfl rfl rfl (by decide) (ws' := [(aT, .inr (2, [.ref aT_points, .int T_count, .ref aT_keys, .ref aT_aparts, .ref aT_roots, .ref aT_firsts, .ref aT_seconds, .ref aT_parts, .ref aT_firstSides, .ref aT_otherSides, .ref aT_joinsAbove, .ref aT_pointsAbove, .ref aT_pairs, .ref aT_links, .ref aT_nodes])), (aT_joinsAbove, .inl (cI, 24, .inl T_joinsAbove)), (aT_pointsAbove, .inl (cI, 24, .inl T_pointsAbove))]) rfl (As := [.int x1]) (rest := []) rfl rfl (Nat.le_of_ble_eq_true rfl) dX2_joinAbove_1 ?_
  refine r_istore_n S dX2_joinAbove_4 rfl (Nat.le_of_ble_eq_true rfl) (lv' := [(2, .int r1), (0, .ref aT), (1, .int x1)]) rfl ?_
  refine r_iload_n S dX2_joinAbove_5 rfl 0 rfl ?_
  refine r_iconst (v := (-1 : Int32)) S dX2_joinAbove_6 rfl ?_
  refine r_icmp_eq 17 S dX2_joinAbove_7 (by decide) (fun c2 => ?_) (fun c2 => ?_)
  · replace hm := iT c2 hm
    refine r_iload_n S dX2_joinAbove_17 rfl 2 rfl ?_
    refine r_if_lt 36 S dX2_joinAbove_18 (by decide) (fun c3 => ?_) (fun c3 => ?_)
    · replace hm := iT c3 hm
      refine r_iconst (v := (-1 : Int32)) S dX2_joinAbove_36 rfl ?_
      exact hR (-1 : Int32) _ _ hm dX2_joinAbove_37
    · replace hm := iF c3 hm
      refine r_iload_n S dX2_joinAbove_21 rfl 2 rfl ?_
      refine r_bipush (v := (24 : Int32)) S dX2_joinAbove_22 rfl ?_
      refine r_icmp_ge 36 S dX2_joinAbove_24 (by decide) (fun c4 => ?_) (fun c4 => ?_)
      · replace hm := iT c4 hm
        refine r_iconst (v := (-1 : Int32)) S dX2_joinAbove_36 rfl ?_
        exact hR (-1 : Int32) _ _ hm dX2_joinAbove_37
      · replace hm := iF c4 hm
        refine r_aload_n S dX2_joinAbove_27 rfl 1 rfl ?_
        refine r_get (T := TX2) (ci := 2) S (tlA inlX2) rfl 0 rfl 11 (Nat.le_of_ble_eq_true rfl) (tl u59) rfl dX2_joinAbove_28 ?_
        refine r_iload_n S dX2_joinAbove_31 rfl 2 rfl ?_
        obtain ⟨v5, h_v5, hm⟩ := bS hm
        refine r_iald S h_v5 2 0 rfl rfl dX2_joinAbove_32 ?_
        refine r_goto 37 S dX2_joinAbove_33 (by decide) ?_
        exact hR v5 _ _ hm dX2_joinAbove_37
  · replace hm := iF c2 hm
    refine r_aload_n S dX2_joinAbove_10 rfl 1 rfl ?_
    refine r_get (T := TX2) (ci := 2) S (tlA inlX2) rfl 0 rfl 10 (Nat.le_of_ble_eq_true rfl) (tl u58) rfl dX2_joinAbove_11 ?_
    refine r_iload_n S dX2_joinAbove_14 rfl 0 rfl ?_
    obtain ⟨v6, h_v6, hm⟩ := bS hm
    refine r_iald S h_v6 1 0 rfl rfl dX2_joinAbove_15 ?_
    exact hR v6 _ _ hm dX2_joinAbove_16
def wtX4_weightOf : List Cond := Cond.code yX4_weightOf cX4_weightOf 4 (some .int) :: wsL_law
theorem ok_X4_weightOf : CallOK yX4_weightOf wtX4_weightOf RX4 1 4 := ⟨⟨_, _, _, rfl⟩, rfl, ⟨by decide +kernel, by decide +kernel⟩, by decide +kernel⟩
set_option maxRecDepth 100000 in
set_option maxHeartbeats 4000000 in
theorem c_X4_weightOf (l0 : Launch) (D0 : va_G) (cI cJ cZ cY : ClassId) (F : Nat) (aT aT_xs aT_ys aT_ws : Nat) (T_count : Int32) (T_ws : Nat → Int32) (x1 : Int32) (res : Int32) (hm : mX4_weightOf F x1 T_count T_ws = some res) : Ci D0 [(cI, .int), (cJ, .long), (cZ, .boolean), (cY, .array .int)] l0 yX4_weightOf wtX4_weightOf ({ frames := 1, cells := 0, slots := 0, locals := 21 }) [.ref aT, .int x1] (res) [(aT, .inr (4, [.int T_count, .ref aT_xs, .ref aT_ys, .ref aT_ws])), (aT_ws, .inl (cI, 24, .inl T_ws))] [(aT, .inr (4, [.int T_count, .ref aT_xs, .ref aT_ys, .ref aT_ws])), (aT_ws, .inl (cI, 24, .inl T_ws))] := by
  refine Ci.ofi cX4_weightOf 4 (own := RX4) (by decide +kernel) rfl rfl (Nat.le_of_ble_eq_true rfl) ?_
  intro X S hR0
  have hR : ∀ (r9 : Int32) (pc : Nat) (lv : List (Nat × Value)), some r9 = some res → decode cX4_weightOf pc = .ok (.ireturn, 1) → G X pc lv [.int (r9)] [(aT, .inr (4, [.int T_count, .ref aT_xs, .ref aT_ys, .ref aT_ws])), (aT_ws, .inl (cI, 24, .inl T_ws))] := fun r9 pc lv h9 hd => by cases h9; exact hR0 pc lv hd
  show G X 0 [(0, .ref aT), (1, .int x1)] [] [(aT, .inr (4, [.int T_count, .ref aT_xs, .ref aT_ys, .ref aT_ws])), (aT_ws, .inl (cI, 24, .inl T_ws))]
  unfold mX4_weightOf at hm
  refine r_iconst (v := (0 : Int32)) S dX4_weightOf_0 rfl ?_
  refine r_istore_n S dX4_weightOf_1 rfl (Nat.le_of_ble_eq_true rfl) (lv' := [(2, .int (0 : Int32)), (0, .ref aT), (1, .int x1)]) rfl ?_
  refine r_iconst (v := (0 : Int32)) S dX4_weightOf_2 rfl ?_
  refine r_istore_n S dX4_weightOf_3 rfl (Nat.le_of_ble_eq_true rfl) (lv' := [(3, .int (0 : Int32)), (2, .int (0 : Int32)), (0, .ref aT), (1, .int x1)]) rfl ?_
  have hR4 : ∀ (r9 : Int32) (pc : Nat) (lv : List (Nat × Value)), r9 = res → decode cX4_weightOf pc = .ok (.ireturn, 1) → G X pc lv [.int (r9)] [(aT, .inr (4, [.int T_count, .ref aT_xs, .ref aT_ys, .ref aT_ws])), (aT_ws, .inl (cI, 24, .inl T_ws))] := fun r9 pc lv h9 hd => hR r9 pc lv (congrArg some h9) hd
  refine r_lv [2, 3, 1, 0] (lv' := [(0, .ref aT), (1, .int x1), (2, .int (0 : Int32)), (3, .int (0 : Int32))]) rfl ?_
  refine loopG (r0 := res) (Gd := fun s9 => G X 4 [(0, .ref aT), (1, .int x1), (2, .int s9.1), (3, .int s9.2)] [] [(aT, .inr (4, [.int T_count, .ref aT_xs, .ref aT_ys, .ref aT_ws])), (aT_ws, .inl (cI, 24, .inl T_ws))]) ?_ _ _ hm
  rintro ⟨x2_4, x3_4⟩ b4 hm hk4 hr4
  replace hm : mX4_weightOf_b4 F x1 T_count T_ws x2_4 x3_4 = some b4 := hm
  unfold mX4_weightOf_b4 at hm
  show G X 4 [(0, .ref aT), (1, .int x1), (2, .int x2_4), (3, .int x3_4)] [] [(aT, .inr (4, [.int T_count, .ref aT_xs, .ref aT_ys, .ref aT_ws])), (aT_ws, .inl (cI, 24, .inl T_ws))]
  refine r_iload_n S dX4_weightOf_4 rfl 3 rfl ?_
  refine r_aload_n S dX4_weightOf_5 rfl 0 rfl ?_
  refine r_get (T := TX4) (ci := 4) S (tlA inlX4) rfl 0 rfl 0 (Nat.le_of_ble_eq_true rfl) (tl u67) rfl dX4_weightOf_6 ?_
  refine r_icmp_ge 35 S dX4_weightOf_9 (by decide) (fun c2 => ?_) (fun c2 => ?_)
  · replace hm := iT c2 hm
    refine r_iload_n S dX4_weightOf_35 rfl 2 rfl ?_
    exact hR4 x2_4 _ _ (hr4 _ (Option.some.inj hm).symm) dX4_weightOf_36
  · replace hm := iF c2 hm
    refine r_iload_n S dX4_weightOf_12 rfl 1 rfl ?_
    refine r_iload_n S dX4_weightOf_13 rfl 3 rfl ?_
    obtain ⟨r3, h_r3, hm⟩ := bS hm
    refine r_callzS S (c_X6_has l0 D0 cI cJ cZ cY F x1 x3_4 _ h_r3) (gS u249 u197 u198 u199) ok_X6_has ⟨rfl, rfl⟩ ⟨Nat.le_of_ble_eq_true rfl, Nat.le_of_ble_eq_true rfl⟩ [] [0, 1] rfl (wr := [(aT, .inr (4, [.int T_count, .ref aT_xs, .ref aT_ys, .ref aT_ws])), (aT_ws, .inl (cI, 24, .inl T_ws))]) rfl rfl rfl (by decide) (ws' := [(aT, .inr (4, [.int T_count, .ref aT_xs, .ref aT_ys, .ref aT_ws])), (aT_ws, .inl (cI, 24, .inl T_ws))]) rfl (As := [.int x1, .int x3_4]) (rest := []) rfl rfl (Nat.le_of_ble_eq_true rfl) dX4_weightOf_14 (fun hz_r3 => ?_)
    refine r_if_eq 29 S dX4_weightOf_17 (by decide) (fun c4 => ?_) (fun c4 => ?_)
    · replace hm := iT c4 hm
      refine r_iincc S dX4_weightOf_29 3 rfl (c0 := (1 : Int32)) rfl rfl (Nat.le_of_ble_eq_true rfl) (lv' := [(3, .int (x3_4 + (1 : Int32))), (0, .ref aT), (1, .int x1), (2, .int x2_4)]) rfl ?_
      refine r_goto 4 S dX4_weightOf_32 (by decide) ?_
      refine r_lv [1, 2, 3, 0] (lv' := [(0, .ref aT), (1, .int x1), (2, .int x2_4), (3, .int (x3_4 + (1 : Int32)))]) rfl ?_
      exact hk4 (x2_4, (x3_4 + (1 : Int32))) (Option.some.inj hm).symm
    · replace hm := iF c4 hm
      refine r_iload_n S dX4_weightOf_20 rfl 2 rfl ?_
      refine r_aload_n S dX4_weightOf_21 rfl 0 rfl ?_
      refine r_get (T := TX4) (ci := 4) S (tlA inlX4) rfl 0 rfl 3 (Nat.le_of_ble_eq_true rfl) (tl u70) rfl dX4_weightOf_22 ?_
      refine r_iload_n S dX4_weightOf_25 rfl 3 rfl ?_
      obtain ⟨v5, h_v5, hm⟩ := bS hm
      refine r_iald S h_v5 1 0 rfl rfl dX4_weightOf_26 ?_
      refine r_iadd S dX4_weightOf_27 ?_
      obtain ⟨v6, h_v6, hm⟩ := bS hm
      refine r_topI h_v6 ?_
      refine r_istore_n S dX4_weightOf_28 rfl (Nat.le_of_ble_eq_true rfl) (lv' := [(2, .int v6), (0, .ref aT), (1, .int x1), (3, .int x3_4)]) rfl ?_
      refine r_iincc S dX4_weightOf_29 3 rfl (c0 := (1 : Int32)) rfl rfl (Nat.le_of_ble_eq_true rfl) (lv' := [(3, .int (x3_4 + (1 : Int32))), (2, .int v6), (0, .ref aT), (1, .int x1)]) rfl ?_
      refine r_goto 4 S dX4_weightOf_32 (by decide) ?_
      refine r_lv [2, 3, 1, 0] (lv' := [(0, .ref aT), (1, .int x1), (2, .int v6), (3, .int (x3_4 + (1 : Int32)))]) rfl ?_
      exact hk4 (v6, (x3_4 + (1 : Int32))) (Option.some.inj hm).symm
def wtX2_lastsOf : List Cond := Cond.code yX2_lastsOf cX2_lastsOf 5 (some .int) :: wsL_law
theorem ok_X2_lastsOf : CallOK yX2_lastsOf wtX2_lastsOf RX2 1 5 := ⟨⟨_, _, _, rfl⟩, rfl, ⟨by decide +kernel, by decide +kernel⟩, by decide +kernel⟩
set_option maxRecDepth 100000 in
set_option maxHeartbeats 4000000 in
theorem c_X2_lastsOf (l0 : Launch) (D0 : va_G) (cI cJ cZ cY : ClassId) (F : Nat) (aT aT_points aT_keys aT_aparts aT_roots aT_firsts aT_seconds aT_parts aT_firstSides aT_otherSides aT_joinsAbove aT_pointsAbove aT_pairs aT_links aT_nodes aT_points_xs aT_points_ys aT_points_ws : Nat) (T_count : Int32) (T_points_count : Int32) (T_joinsAbove : Nat → Int32) (T_parts : Nat → Int32) (T_points_ws : Nat → Int32) (T_pointsAbove : Nat → Int32) (T_roots : Nat → Int32) (x1 : Int32) (res : Int32) (hm : mX2_lastsOf F x1 T_count T_points_count T_joinsAbove T_parts T_points_ws T_pointsAbove T_roots = some res) : Ci D0 [(cI, .int), (cJ, .long), (cZ, .boolean), (cY, .array .int)] l0 yX2_lastsOf wtX2_lastsOf ({ frames := 2, cells := 0, slots := 0, locals := 44 }) [.ref aT, .int x1] (res) [(aT, .inr (2, [.ref aT_points, .int T_count, .ref aT_keys, .ref aT_aparts, .ref aT_roots, .ref aT_firsts, .ref aT_seconds, .ref aT_parts, .ref aT_firstSides, .ref aT_otherSides, .ref aT_joinsAbove, .ref aT_pointsAbove, .ref aT_pairs, .ref aT_links, .ref aT_nodes])), (aT_points, .inr (4, [.int T_points_count, .ref aT_points_xs, .ref aT_points_ys, .ref aT_points_ws])), (aT_joinsAbove, .inl (cI, 24, .inl T_joinsAbove)), (aT_parts, .inl (cI, 24, .inl T_parts)), (aT_points_ws, .inl (cI, 24, .inl T_points_ws)), (aT_pointsAbove, .inl (cI, 24, .inl T_pointsAbove)), (aT_roots, .inl (cI, 24, .inl T_roots))] [(aT, .inr (2, [.ref aT_points, .int T_count, .ref aT_keys, .ref aT_aparts, .ref aT_roots, .ref aT_firsts, .ref aT_seconds, .ref aT_parts, .ref aT_firstSides, .ref aT_otherSides, .ref aT_joinsAbove, .ref aT_pointsAbove, .ref aT_pairs, .ref aT_links, .ref aT_nodes])), (aT_points, .inr (4, [.int T_points_count, .ref aT_points_xs, .ref aT_points_ys, .ref aT_points_ws])), (aT_joinsAbove, .inl (cI, 24, .inl T_joinsAbove)), (aT_parts, .inl (cI, 24, .inl T_parts)), (aT_points_ws, .inl (cI, 24, .inl T_points_ws)), (aT_pointsAbove, .inl (cI, 24, .inl T_pointsAbove)), (aT_roots, .inl (cI, 24, .inl T_roots))] := by
  refine Ci.ofi cX2_lastsOf 5 (own := RX2) (by decide +kernel) rfl rfl (Nat.le_of_ble_eq_true rfl) ?_
  intro X S hR0
  have hR : ∀ (r9 : Int32) (pc : Nat) (lv : List (Nat × Value)), some r9 = some res → decode cX2_lastsOf pc = .ok (.ireturn, 1) → G X pc lv [.int (r9)] [(aT, .inr (2, [.ref aT_points, .int T_count, .ref aT_keys, .ref aT_aparts, .ref aT_roots, .ref aT_firsts, .ref aT_seconds, .ref aT_parts, .ref aT_firstSides, .ref aT_otherSides, .ref aT_joinsAbove, .ref aT_pointsAbove, .ref aT_pairs, .ref aT_links, .ref aT_nodes])), (aT_points, .inr (4, [.int T_points_count, .ref aT_points_xs, .ref aT_points_ys, .ref aT_points_ws])), (aT_joinsAbove, .inl (cI, 24, .inl T_joinsAbove)), (aT_parts, .inl (cI, 24, .inl T_parts)), (aT_points_ws, .inl (cI, 24, .inl T_points_ws)), (aT_pointsAbove, .inl (cI, 24, .inl T_pointsAbove)), (aT_roots, .inl (cI, 24, .inl T_roots))] := fun r9 pc lv h9 hd => by cases h9; exact hR0 pc lv hd
  show G X 0 [(0, .ref aT), (1, .int x1)] [] [(aT, .inr (2, [.ref aT_points, .int T_count, .ref aT_keys, .ref aT_aparts, .ref aT_roots, .ref aT_firsts, .ref aT_seconds, .ref aT_parts, .ref aT_firstSides, .ref aT_otherSides, .ref aT_joinsAbove, .ref aT_pointsAbove, .ref aT_pairs, .ref aT_links, .ref aT_nodes])), (aT_points, .inr (4, [.int T_points_count, .ref aT_points_xs, .ref aT_points_ys, .ref aT_points_ws])), (aT_joinsAbove, .inl (cI, 24, .inl T_joinsAbove)), (aT_parts, .inl (cI, 24, .inl T_parts)), (aT_points_ws, .inl (cI, 24, .inl T_points_ws)), (aT_pointsAbove, .inl (cI, 24, .inl T_pointsAbove)), (aT_roots, .inl (cI, 24, .inl T_roots))]
  unfold mX2_lastsOf at hm
  refine r_iload_n S dX2_lastsOf_0 rfl 1 rfl ?_
  obtain ⟨r1, h_r1, hm⟩ := bS hm
  refine r_calliS S (c_X2_joinOf l0 D0 cI cJ cZ cY F x1 _ h_r1) (gS u222 u223 u11 u224) ok_X2_joinOf ⟨rfl, rfl⟩ ⟨Nat.le_of_ble_eq_true rfl, Nat.le_of_ble_eq_true rfl⟩ [] [0, 1, 2, 3, 4, 5, 6] rfl (wr := [(aT, .inr (2, [.ref aT_points, .int T_count, .ref aT_keys, .ref aT_aparts, .ref aT_roots, .ref aT_firsts, .ref aT_seconds, .ref aT_parts, .ref aT_firstSides, .ref aT_otherSides, .ref aT_joinsAbove, .ref aT_pointsAbove, .ref aT_pairs, .ref aT_links, .ref aT_nodes])), (aT_points, .inr (4, [.int T_points_count, .ref aT_points_xs, .ref aT_points_ys, .ref aT_points_ws])), (aT_joinsAbove, .inl (cI, 24, .inl T_joinsAbove)), (aT_parts, .inl (cI, 24, .inl T_parts)), (aT_points_ws, .inl (cI, 24, .inl T_points_ws)), (aT_pointsAbove, .inl (cI, 24, .inl T_pointsAbove)), (aT_roots, .inl (cI, 24, .inl T_roots))]) rfl rfl rfl (by decide) (ws' := [(aT, .inr (2, [.ref aT_points, .int T_count, .ref aT_keys, .ref aT_aparts, .ref aT_roots, .ref aT_firsts, .ref aT_seconds, .ref aT_parts, .ref aT_firstSides, .ref aT_otherSides, .ref aT_joinsAbove, .ref aT_pointsAbove, .ref aT_pairs, .ref aT_links, .ref aT_nodes])), (aT_points, .inr (4, [.int T_points_count, .ref aT_points_xs, .ref aT_points_ys, .ref aT_points_ws])), (aT_joinsAbove, .inl (cI, 24, .inl T_joinsAbove)), (aT_parts, .inl (cI, 24, .inl T_parts)), (aT_points_ws, .inl (cI, 24, .inl T_points_ws)), (aT_pointsAbove, .inl (cI, 24, .inl T_pointsAbove)), (aT_roots, .inl (cI, 24, .inl T_roots))]) rfl (As := [.int x1]) (rest := []) rfl rfl (Nat.le_of_ble_eq_true rfl) dX2_lastsOf_1 ?_
  refine r_istore_n S dX2_lastsOf_4 rfl (Nat.le_of_ble_eq_true rfl) (lv' := [(2, .int r1), (0, .ref aT), (1, .int x1)]) rfl ?_
  refine r_aload_n S dX2_lastsOf_5 rfl 1 rfl ?_
  refine r_iload_n S dX2_lastsOf_6 rfl 2 rfl ?_
  obtain ⟨r2, h_r2, hm⟩ := bS hm
  refine r_calliV S (c_X2_joinAbove l0 D0 cI cJ cZ cY F aT aT_points aT_keys aT_aparts aT_roots aT_firsts aT_seconds aT_parts aT_firstSides aT_otherSides aT_joinsAbove aT_pointsAbove aT_pairs aT_links aT_nodes T_count T_joinsAbove T_pointsAbove x1 _ h_r2) (gV u345 u346 u347 u11 u348) ok_X2_joinAbove ⟨rfl, rfl⟩ ⟨Nat.le_of_ble_eq_true rfl, Nat.le_of_ble_eq_true rfl⟩ [0, 2, 5] [1, 3, 4, 6] rfl (wr := [(aT_points, .inr (4, [.int T_points_count, .ref aT_points_xs, .ref aT_points_ys, .ref aT_points_ws])), (aT_parts, .inl (cI, 24, .inl T_parts)), (aT_points_ws, .inl (cI, 24, .inl T_points_ws)), (aT_roots, .inl (cI, 24, .inl T_roots))]) rfl rfl rfl (by decide) (ci := 2) (T := TX2) 0 rfl rfl (ws' := [(aT_points, .inr (4, [.int T_points_count, .ref aT_points_xs, .ref aT_points_ys, .ref aT_points_ws])), (aT_parts, .inl (cI, 24, .inl T_parts)), (aT_points_ws, .inl (cI, 24, .inl T_points_ws)), (aT_roots, .inl (cI, 24, .inl T_roots)), (aT, .inr (2, [.ref aT_points, .int T_count, .ref aT_keys, .ref aT_aparts, .ref aT_roots, .ref aT_firsts, .ref aT_seconds, .ref aT_parts, .ref aT_firstSides, .ref aT_otherSides, .ref aT_joinsAbove, .ref aT_pointsAbove, .ref aT_pairs, .ref aT_links, .ref aT_nodes])), (aT_joinsAbove, .inl (cI, 24, .inl T_joinsAbove)), (aT_pointsAbove, .inl (cI, 24, .inl T_pointsAbove))]) rfl (As := [.int x1]) (rest := []) rfl rfl (Nat.le_of_ble_eq_true rfl) dX2_lastsOf_7 ?_
  refine r_istore_n S dX2_lastsOf_10 rfl (Nat.le_of_ble_eq_true rfl) (lv' := [(3, .int r2), (2, .int r1), (0, .ref aT), (1, .int x1)]) rfl ?_
  refine r_iload_n S dX2_lastsOf_11 rfl 0 rfl ?_
  refine r_if_lt 23 S dX2_lastsOf_12 (by decide) (fun c3 => ?_) (fun c3 => ?_)
  · replace hm := iT c3 hm
    refine r_iconst (v := (0 : Int32)) S dX2_lastsOf_23 rfl ?_
    refine r_perm [4, 0, 5, 1, 2, 6, 3] (ws' := [(aT, .inr (2, [.ref aT_points, .int T_count, .ref aT_keys, .ref aT_aparts, .ref aT_roots, .ref aT_firsts, .ref aT_seconds, .ref aT_parts, .ref aT_firstSides, .ref aT_otherSides, .ref aT_joinsAbove, .ref aT_pointsAbove, .ref aT_pairs, .ref aT_links, .ref aT_nodes])), (aT_points, .inr (4, [.int T_points_count, .ref aT_points_xs, .ref aT_points_ys, .ref aT_points_ws])), (aT_joinsAbove, .inl (cI, 24, .inl T_joinsAbove)), (aT_parts, .inl (cI, 24, .inl T_parts)), (aT_points_ws, .inl (cI, 24, .inl T_points_ws)), (aT_pointsAbove, .inl (cI, 24, .inl T_pointsAbove)), (aT_roots, .inl (cI, 24, .inl T_roots))]) rfl rfl ?_
    exact hR (0 : Int32) _ _ hm dX2_lastsOf_24
  · replace hm := iF c3 hm
    refine r_iload_n S dX2_lastsOf_15 rfl 0 rfl ?_
    refine r_aload_n S dX2_lastsOf_16 rfl 2 rfl ?_
    refine r_get (T := TX2) (ci := 2) S (tlA inlX2) rfl 4 rfl 1 (Nat.le_of_ble_eq_true rfl) (tl u48) rfl dX2_lastsOf_17 ?_
    refine r_icmp_lt 25 S dX2_lastsOf_20 (by decide) (fun c4 => ?_) (fun c4 => ?_)
    · replace hm := iT c4 hm
      refine r_iload_n S dX2_lastsOf_25 rfl 1 rfl ?_
      refine r_iconst (v := (-1 : Int32)) S dX2_lastsOf_26 rfl ?_
      have hJ40 : ∀ (x3_40 : Int32) (y0_40 : Int32), mX2_lastsOf_j40 F x1 T_points_count T_parts T_points_ws T_roots x3_40 y0_40 = some res → G X 40 [(0, .ref aT), (1, .int x1), (3, .int x3_40)] [.int y0_40] [(aT, .inr (2, [.ref aT_points, .int T_count, .ref aT_keys, .ref aT_aparts, .ref aT_roots, .ref aT_firsts, .ref aT_seconds, .ref aT_parts, .ref aT_firstSides, .ref aT_otherSides, .ref aT_joinsAbove, .ref aT_pointsAbove, .ref aT_pairs, .ref aT_links, .ref aT_nodes])), (aT_points, .inr (4, [.int T_points_count, .ref aT_points_xs, .ref aT_points_ys, .ref aT_points_ws])), (aT_joinsAbove, .inl (cI, 24, .inl T_joinsAbove)), (aT_parts, .inl (cI, 24, .inl T_parts)), (aT_points_ws, .inl (cI, 24, .inl T_points_ws)), (aT_pointsAbove, .inl (cI, 24, .inl T_pointsAbove)), (aT_roots, .inl (cI, 24, .inl T_roots))] := by
        intro x3_40 y0_40 hm
        unfold mX2_lastsOf_j40 at hm
        refine r_istore S dX2_lastsOf_40 (Nat.le_of_ble_eq_true rfl) (lv' := [(4, .int y0_40), (0, .ref aT), (1, .int x1), (3, .int x3_40)]) rfl ?_
        refine r_aload_n S dX2_lastsOf_42 rfl 1 rfl ?_
        refine r_get (T := TX2) (ci := 2) S (tlA inlX2) rfl 0 rfl 0 (Nat.le_of_ble_eq_true rfl) (tl u47) rfl dX2_lastsOf_43 ?_
        refine r_aload_n S dX2_lastsOf_46 rfl 1 rfl ?_
        refine r_iload_n S dX2_lastsOf_47 rfl 2 rfl ?_
        obtain ⟨r5, h_r5, hm⟩ := bS hm
        refine r_calliV S (c_X2_setOf l0 D0 cI cJ cZ cY F aT aT_points aT_keys aT_aparts aT_roots aT_firsts aT_seconds aT_parts aT_firstSides aT_otherSides aT_joinsAbove aT_pointsAbove aT_pairs aT_links aT_nodes T_count T_parts x1 _ h_r5) (gV u218 u219 u220 u11 u221) ok_X2_setOf ⟨rfl, rfl⟩ ⟨Nat.le_of_ble_eq_true rfl, Nat.le_of_ble_eq_true rfl⟩ [0, 3] [1, 2, 4, 5, 6] rfl (wr := [(aT_points, .inr (4, [.int T_points_count, .ref aT_points_xs, .ref aT_points_ys, .ref aT_points_ws])), (aT_joinsAbove, .inl (cI, 24, .inl T_joinsAbove)), (aT_points_ws, .inl (cI, 24, .inl T_points_ws)), (aT_pointsAbove, .inl (cI, 24, .inl T_pointsAbove)), (aT_roots, .inl (cI, 24, .inl T_roots))]) rfl rfl rfl (by decide) (ci := 2) (T := TX2) 0 rfl rfl (ws' := [(aT_points, .inr (4, [.int T_points_count, .ref aT_points_xs, .ref aT_points_ys, .ref aT_points_ws])), (aT_joinsAbove, .inl (cI, 24, .inl T_joinsAbove)), (aT_points_ws, .inl (cI, 24, .inl T_points_ws)), (aT_pointsAbove, .inl (cI, 24, .inl T_pointsAbove)), (aT_roots, .inl (cI, 24, .inl T_roots)), (aT, .inr (2, [.ref aT_points, .int T_count, .ref aT_keys, .ref aT_aparts, .ref aT_roots, .ref aT_firsts, .ref aT_seconds, .ref aT_parts, .ref aT_firstSides, .ref aT_otherSides, .ref aT_joinsAbove, .ref aT_pointsAbove, .ref aT_pairs, .ref aT_links, .ref aT_nodes])), (aT_parts, .inl (cI, 24, .inl T_parts))]) rfl (As := [.int x1]) (rest := [.ref aT_points]) rfl rfl (Nat.le_of_ble_eq_true rfl) dX2_lastsOf_48 ?_
        obtain ⟨r6, h_r6, hm⟩ := bS hm
        refine r_calliV S (c_X4_weightOf l0 D0 cI cJ cZ cY F aT_points aT_points_xs aT_points_ys aT_points_ws T_points_count T_points_ws r5 _ h_r6) (gV u349 u246 u247 u46 u248) ok_X4_weightOf ⟨rfl, rfl⟩ ⟨Nat.le_of_ble_eq_true rfl, Nat.le_of_ble_eq_true rfl⟩ [0, 2] [1, 3, 4, 5, 6] rfl (wr := [(aT_joinsAbove, .inl (cI, 24, .inl T_joinsAbove)), (aT_pointsAbove, .inl (cI, 24, .inl T_pointsAbove)), (aT_roots, .inl (cI, 24, .inl T_roots)), (aT, .inr (2, [.ref aT_points, .int T_count, .ref aT_keys, .ref aT_aparts, .ref aT_roots, .ref aT_firsts, .ref aT_seconds, .ref aT_parts, .ref aT_firstSides, .ref aT_otherSides, .ref aT_joinsAbove, .ref aT_pointsAbove, .ref aT_pairs, .ref aT_links, .ref aT_nodes])), (aT_parts, .inl (cI, 24, .inl T_parts))]) rfl rfl rfl (by decide) (ci := 4) (T := TX4) 0 rfl rfl (ws' := [(aT_joinsAbove, .inl (cI, 24, .inl T_joinsAbove)), (aT_pointsAbove, .inl (cI, 24, .inl T_pointsAbove)), (aT_roots, .inl (cI, 24, .inl T_roots)), (aT, .inr (2, [.ref aT_points, .int T_count, .ref aT_keys, .ref aT_aparts, .ref aT_roots, .ref aT_firsts, .ref aT_seconds, .ref aT_parts, .ref aT_firstSides, .ref aT_otherSides, .ref aT_joinsAbove, .ref aT_pointsAbove, .ref aT_pairs, .ref aT_links, .ref aT_nodes])), (aT_parts, .inl (cI, 24, .inl T_parts)), (aT_points, .inr (4, [.int T_points_count, .ref aT_points_xs, .ref aT_points_ys, .ref aT_points_ws])), (aT_points_ws, .inl (cI, 24, .inl T_points_ws))]) rfl (As := [.int r5]) (rest := []) rfl rfl (Nat.le_of_ble_eq_true rfl) dX2_lastsOf_51 ?_
        refine r_aload_n S dX2_lastsOf_54 rfl 1 rfl ?_
        refine r_get (T := TX2) (ci := 2) S (tlA inlX2) rfl 3 rfl 4 (Nat.le_of_ble_eq_true rfl) (tl u52) rfl dX2_lastsOf_55 ?_
        refine r_iload_n S dX2_lastsOf_58 rfl 3 rfl ?_
        obtain ⟨v7, h_v7, hm⟩ := bS hm
        refine r_iald S h_v7 2 0 rfl rfl dX2_lastsOf_59 ?_
        refine r_iload S dX2_lastsOf_60 0 rfl ?_
        refine r_isub S dX2_lastsOf_62 ?_
        refine r_imul S dX2_lastsOf_63 ?_
        refine r_perm [3, 5, 0, 4, 6, 1, 2] (ws' := [(aT, .inr (2, [.ref aT_points, .int T_count, .ref aT_keys, .ref aT_aparts, .ref aT_roots, .ref aT_firsts, .ref aT_seconds, .ref aT_parts, .ref aT_firstSides, .ref aT_otherSides, .ref aT_joinsAbove, .ref aT_pointsAbove, .ref aT_pairs, .ref aT_links, .ref aT_nodes])), (aT_points, .inr (4, [.int T_points_count, .ref aT_points_xs, .ref aT_points_ys, .ref aT_points_ws])), (aT_joinsAbove, .inl (cI, 24, .inl T_joinsAbove)), (aT_parts, .inl (cI, 24, .inl T_parts)), (aT_points_ws, .inl (cI, 24, .inl T_points_ws)), (aT_pointsAbove, .inl (cI, 24, .inl T_pointsAbove)), (aT_roots, .inl (cI, 24, .inl T_roots))]) rfl rfl ?_
        exact hR (r6 * (v7 - y0_40)) _ _ hm dX2_lastsOf_64
      refine r_icmp_eq 39 S dX2_lastsOf_27 (by decide) (fun c8 => ?_) (fun c8 => ?_)
      · replace hm := iT c8 hm
        refine r_iconst (v := (0 : Int32)) S dX2_lastsOf_39 rfl ?_
        refine r_perm [4, 0, 5, 1, 2, 6, 3] (ws' := [(aT, .inr (2, [.ref aT_points, .int T_count, .ref aT_keys, .ref aT_aparts, .ref aT_roots, .ref aT_firsts, .ref aT_seconds, .ref aT_parts, .ref aT_firstSides, .ref aT_otherSides, .ref aT_joinsAbove, .ref aT_pointsAbove, .ref aT_pairs, .ref aT_links, .ref aT_nodes])), (aT_points, .inr (4, [.int T_points_count, .ref aT_points_xs, .ref aT_points_ys, .ref aT_points_ws])), (aT_joinsAbove, .inl (cI, 24, .inl T_joinsAbove)), (aT_parts, .inl (cI, 24, .inl T_parts)), (aT_points_ws, .inl (cI, 24, .inl T_points_ws)), (aT_pointsAbove, .inl (cI, 24, .inl T_pointsAbove)), (aT_roots, .inl (cI, 24, .inl T_roots))]) rfl rfl ?_
        refine r_lv [2, 3, 0] (lv' := [(0, .ref aT), (1, .int x1), (3, .int r2)]) rfl ?_
        exact hJ40 r2 (0 : Int32) hm
      · replace hm := iF c8 hm
        refine r_aload_n S dX2_lastsOf_30 rfl 2 rfl ?_
        refine r_get (T := TX2) (ci := 2) S (tlA inlX2) rfl 4 rfl 4 (Nat.le_of_ble_eq_true rfl) (tl u52) rfl dX2_lastsOf_31 ?_
        refine r_iload_n S dX2_lastsOf_34 rfl 1 rfl ?_
        obtain ⟨v9, h_v9, hm⟩ := bS hm
        refine r_iald S h_v9 3 0 rfl rfl dX2_lastsOf_35 ?_
        refine r_goto 40 S dX2_lastsOf_36 (by decide) ?_
        refine r_perm [4, 0, 5, 1, 2, 6, 3] (ws' := [(aT, .inr (2, [.ref aT_points, .int T_count, .ref aT_keys, .ref aT_aparts, .ref aT_roots, .ref aT_firsts, .ref aT_seconds, .ref aT_parts, .ref aT_firstSides, .ref aT_otherSides, .ref aT_joinsAbove, .ref aT_pointsAbove, .ref aT_pairs, .ref aT_links, .ref aT_nodes])), (aT_points, .inr (4, [.int T_points_count, .ref aT_points_xs, .ref aT_points_ys, .ref aT_points_ws])), (aT_joinsAbove, .inl (cI, 24, .inl T_joinsAbove)), (aT_parts, .inl (cI, 24, .inl T_parts)), (aT_points_ws, .inl (cI, 24, .inl T_points_ws)), (aT_pointsAbove, .inl (cI, 24, .inl T_pointsAbove)), (aT_roots, .inl (cI, 24, .inl T_roots))]) rfl rfl ?_
        refine r_lv [2, 3, 0] (lv' := [(0, .ref aT), (1, .int x1), (3, .int r2)]) rfl ?_
        exact hJ40 r2 v9 hm
    · replace hm := iF c4 hm
      refine r_iconst (v := (0 : Int32)) S dX2_lastsOf_23 rfl ?_
      refine r_perm [4, 0, 5, 1, 2, 6, 3] (ws' := [(aT, .inr (2, [.ref aT_points, .int T_count, .ref aT_keys, .ref aT_aparts, .ref aT_roots, .ref aT_firsts, .ref aT_seconds, .ref aT_parts, .ref aT_firstSides, .ref aT_otherSides, .ref aT_joinsAbove, .ref aT_pointsAbove, .ref aT_pairs, .ref aT_links, .ref aT_nodes])), (aT_points, .inr (4, [.int T_points_count, .ref aT_points_xs, .ref aT_points_ys, .ref aT_points_ws])), (aT_joinsAbove, .inl (cI, 24, .inl T_joinsAbove)), (aT_parts, .inl (cI, 24, .inl T_parts)), (aT_points_ws, .inl (cI, 24, .inl T_points_ws)), (aT_pointsAbove, .inl (cI, 24, .inl T_pointsAbove)), (aT_roots, .inl (cI, 24, .inl T_roots))]) rfl rfl ?_
      exact hR (0 : Int32) _ _ hm dX2_lastsOf_24
def wtX2_partOf : List Cond := Cond.code yX2_partOf cX2_partOf 4 (some .int) :: wsL_law
theorem ok_X2_partOf : CallOK yX2_partOf wtX2_partOf RX2 2 4 := ⟨⟨_, _, _, rfl⟩, rfl, ⟨by decide +kernel, by decide +kernel⟩, by decide +kernel⟩
set_option maxRecDepth 100000 in
set_option maxHeartbeats 4000000 in
theorem c_X2_partOf (l0 : Launch) (D0 : va_G) (cI cJ cZ cY : ClassId) (F : Nat) (aT aT_points aT_keys aT_aparts aT_roots aT_firsts aT_seconds aT_parts aT_firstSides aT_otherSides aT_joinsAbove aT_pointsAbove aT_pairs aT_links aT_nodes : Nat) (T_count : Int32) (T_parts : Nat → Int32) (x1 : Int32) (x2 : Int32) (res : Int32) (hm : mX2_partOf F x1 x2 T_count T_parts = some res) : Ci D0 [(cI, .int), (cJ, .long), (cZ, .boolean), (cY, .array .int)] l0 yX2_partOf wtX2_partOf ({ frames := 1, cells := 0, slots := 0, locals := 23 }) [.ref aT, .int x1, .int x2] (res) [(aT, .inr (2, [.ref aT_points, .int T_count, .ref aT_keys, .ref aT_aparts, .ref aT_roots, .ref aT_firsts, .ref aT_seconds, .ref aT_parts, .ref aT_firstSides, .ref aT_otherSides, .ref aT_joinsAbove, .ref aT_pointsAbove, .ref aT_pairs, .ref aT_links, .ref aT_nodes])), (aT_parts, .inl (cI, 24, .inl T_parts))] [(aT, .inr (2, [.ref aT_points, .int T_count, .ref aT_keys, .ref aT_aparts, .ref aT_roots, .ref aT_firsts, .ref aT_seconds, .ref aT_parts, .ref aT_firstSides, .ref aT_otherSides, .ref aT_joinsAbove, .ref aT_pointsAbove, .ref aT_pairs, .ref aT_links, .ref aT_nodes])), (aT_parts, .inl (cI, 24, .inl T_parts))] := by
  refine Ci.ofi cX2_partOf 4 (own := RX2) (by decide +kernel) rfl rfl (Nat.le_of_ble_eq_true rfl) ?_
  intro X S hR0
  have hR : ∀ (r9 : Int32) (pc : Nat) (lv : List (Nat × Value)), some r9 = some res → decode cX2_partOf pc = .ok (.ireturn, 1) → G X pc lv [.int (r9)] [(aT, .inr (2, [.ref aT_points, .int T_count, .ref aT_keys, .ref aT_aparts, .ref aT_roots, .ref aT_firsts, .ref aT_seconds, .ref aT_parts, .ref aT_firstSides, .ref aT_otherSides, .ref aT_joinsAbove, .ref aT_pointsAbove, .ref aT_pairs, .ref aT_links, .ref aT_nodes])), (aT_parts, .inl (cI, 24, .inl T_parts))] := fun r9 pc lv h9 hd => by cases h9; exact hR0 pc lv hd
  show G X 0 [(0, .ref aT), (1, .int x1), (2, .int x2)] [] [(aT, .inr (2, [.ref aT_points, .int T_count, .ref aT_keys, .ref aT_aparts, .ref aT_roots, .ref aT_firsts, .ref aT_seconds, .ref aT_parts, .ref aT_firstSides, .ref aT_otherSides, .ref aT_joinsAbove, .ref aT_pointsAbove, .ref aT_pairs, .ref aT_links, .ref aT_nodes])), (aT_parts, .inl (cI, 24, .inl T_parts))]
  unfold mX2_partOf at hm
  refine r_iload_n S dX2_partOf_0 rfl 2 rfl ?_
  refine r_aload_n S dX2_partOf_1 rfl 0 rfl ?_
  refine r_get (T := TX2) (ci := 2) S (tlA inlX2) rfl 0 rfl 1 (Nat.le_of_ble_eq_true rfl) (tl u48) rfl dX2_partOf_2 ?_
  refine r_mmin S (tl u178) (tl u179) (tl u172) (tl u180) (Nat.le_of_ble_eq_true rfl) (Nat.le_of_ble_eq_true rfl) dX2_partOf_5 ?_
  obtain ⟨v1, h_v1, hm⟩ := bS hm
  refine r_topI h_v1 ?_
  refine r_iconst (v := (1 : Int32)) S dX2_partOf_8 rfl ?_
  refine r_isub S dX2_partOf_9 ?_
  obtain ⟨v2, h_v2, hm⟩ := bS hm
  refine r_topI h_v2 ?_
  refine r_istore_n S dX2_partOf_10 rfl (Nat.le_of_ble_eq_true rfl) (lv' := [(3, .int v2), (0, .ref aT), (1, .int x1), (2, .int x2)]) rfl ?_
  have hR11 : ∀ (r9 : Int32) (pc : Nat) (lv : List (Nat × Value)), r9 = res → decode cX2_partOf pc = .ok (.ireturn, 1) → G X pc lv [.int (r9)] [(aT, .inr (2, [.ref aT_points, .int T_count, .ref aT_keys, .ref aT_aparts, .ref aT_roots, .ref aT_firsts, .ref aT_seconds, .ref aT_parts, .ref aT_firstSides, .ref aT_otherSides, .ref aT_joinsAbove, .ref aT_pointsAbove, .ref aT_pairs, .ref aT_links, .ref aT_nodes])), (aT_parts, .inl (cI, 24, .inl T_parts))] := fun r9 pc lv h9 hd => hR r9 pc lv (congrArg some h9) hd
  refine r_lv [1, 2, 0] (lv' := [(0, .ref aT), (1, .int x1), (3, .int v2)]) rfl ?_
  refine loopG (r0 := res) (Gd := fun s9 => G X 11 [(0, .ref aT), (1, .int x1), (3, .int s9)] [] [(aT, .inr (2, [.ref aT_points, .int T_count, .ref aT_keys, .ref aT_aparts, .ref aT_roots, .ref aT_firsts, .ref aT_seconds, .ref aT_parts, .ref aT_firstSides, .ref aT_otherSides, .ref aT_joinsAbove, .ref aT_pointsAbove, .ref aT_pairs, .ref aT_links, .ref aT_nodes])), (aT_parts, .inl (cI, 24, .inl T_parts))]) ?_ _ _ hm
  intro x3_11 b11 hm hk11 hr11
  replace hm : mX2_partOf_b11 F x1 T_parts x3_11 = some b11 := hm
  unfold mX2_partOf_b11 at hm
  show G X 11 [(0, .ref aT), (1, .int x1), (3, .int x3_11)] [] [(aT, .inr (2, [.ref aT_points, .int T_count, .ref aT_keys, .ref aT_aparts, .ref aT_roots, .ref aT_firsts, .ref aT_seconds, .ref aT_parts, .ref aT_firstSides, .ref aT_otherSides, .ref aT_joinsAbove, .ref aT_pointsAbove, .ref aT_pairs, .ref aT_links, .ref aT_nodes])), (aT_parts, .inl (cI, 24, .inl T_parts))]
  refine r_iload_n S dX2_partOf_11 rfl 2 rfl ?_
  refine r_if_lt 41 S dX2_partOf_12 (by decide) (fun c4 => ?_) (fun c4 => ?_)
  · replace hm := iT c4 hm
    refine r_iconst (v := (1 : Int32)) S dX2_partOf_41 rfl ?_
    refine r_iload_n S dX2_partOf_42 rfl 1 rfl ?_
    refine r_ishl S dX2_partOf_43 ?_
    exact hR11 ((1 : Int32) <<< (x1 &&& 31)) _ _ (hr11 _ (Option.some.inj hm).symm) dX2_partOf_44
  · replace hm := iF c4 hm
    refine r_aload_n S dX2_partOf_15 rfl 0 rfl ?_
    refine r_get (T := TX2) (ci := 2) S (tlA inlX2) rfl 0 rfl 7 (Nat.le_of_ble_eq_true rfl) (tl u55) rfl dX2_partOf_16 ?_
    refine r_iload_n S dX2_partOf_19 rfl 2 rfl ?_
    obtain ⟨v5, h_v5, hm⟩ := bS hm
    refine r_iald S h_v5 1 0 rfl rfl dX2_partOf_20 ?_
    refine r_iload_n S dX2_partOf_21 rfl 1 rfl ?_
    obtain ⟨r6, h_r6, hm⟩ := bS hm
    refine r_callzS S (c_X6_has l0 D0 cI cJ cZ cY F v5 x1 _ h_r6) (gS u196 u197 u198 u199) ok_X6_has ⟨rfl, rfl⟩ ⟨Nat.le_of_ble_eq_true rfl, Nat.le_of_ble_eq_true rfl⟩ [] [0, 1] rfl (wr := [(aT, .inr (2, [.ref aT_points, .int T_count, .ref aT_keys, .ref aT_aparts, .ref aT_roots, .ref aT_firsts, .ref aT_seconds, .ref aT_parts, .ref aT_firstSides, .ref aT_otherSides, .ref aT_joinsAbove, .ref aT_pointsAbove, .ref aT_pairs, .ref aT_links, .ref aT_nodes])), (aT_parts, .inl (cI, 24, .inl T_parts))]) rfl rfl rfl (by decide) (ws' := [(aT, .inr (2, [.ref aT_points, .int T_count, .ref aT_keys, .ref aT_aparts, .ref aT_roots, .ref aT_firsts, .ref aT_seconds, .ref aT_parts, .ref aT_firstSides, .ref aT_otherSides, .ref aT_joinsAbove, .ref aT_pointsAbove, .ref aT_pairs, .ref aT_links, .ref aT_nodes])), (aT_parts, .inl (cI, 24, .inl T_parts))]) rfl (As := [.int v5, .int x1]) (rest := []) rfl rfl (Nat.le_of_ble_eq_true rfl) dX2_partOf_22 (fun hz_r6 => ?_)
    refine r_if_eq 35 S dX2_partOf_25 (by decide) (fun c7 => ?_) (fun c7 => ?_)
    · replace hm := iT c7 hm
      refine r_iincc S dX2_partOf_35 2 rfl (c0 := (-1 : Int32)) rfl rfl (Nat.le_of_ble_eq_true rfl) (lv' := [(3, .int (x3_11 + (-1 : Int32))), (0, .ref aT), (1, .int x1)]) rfl ?_
      refine r_goto 11 S dX2_partOf_38 (by decide) ?_
      refine r_lv [1, 2, 0] (lv' := [(0, .ref aT), (1, .int x1), (3, .int (x3_11 + (-1 : Int32)))]) rfl ?_
      exact hk11 (x3_11 + (-1 : Int32)) (Option.some.inj hm).symm
    · replace hm := iF c7 hm
      refine r_aload_n S dX2_partOf_28 rfl 0 rfl ?_
      refine r_get (T := TX2) (ci := 2) S (tlA inlX2) rfl 0 rfl 7 (Nat.le_of_ble_eq_true rfl) (tl u55) rfl dX2_partOf_29 ?_
      refine r_iload_n S dX2_partOf_32 rfl 2 rfl ?_
      obtain ⟨v8, h_v8, hm⟩ := bS hm
      refine r_iald S h_v8 1 0 rfl rfl dX2_partOf_33 ?_
      exact hR11 v8 _ _ (hr11 _ (Option.some.inj hm).symm) dX2_partOf_34
def wtX2_joinsWithin : List Cond := Cond.code yX2_joinsWithin cX2_joinsWithin 4 (some .int) :: wsL_law
theorem ok_X2_joinsWithin : CallOK yX2_joinsWithin wtX2_joinsWithin RX2 1 4 := ⟨⟨_, _, _, rfl⟩, rfl, ⟨by decide +kernel, by decide +kernel⟩, by decide +kernel⟩
set_option maxRecDepth 100000 in
set_option maxHeartbeats 4000000 in
theorem c_X2_joinsWithin (l0 : Launch) (D0 : va_G) (cI cJ cZ cY : ClassId) (F : Nat) (aT aT_points aT_keys aT_aparts aT_roots aT_firsts aT_seconds aT_parts aT_firstSides aT_otherSides aT_joinsAbove aT_pointsAbove aT_pairs aT_links aT_nodes : Nat) (T_count : Int32) (T_aparts : Nat → Int32) (x1 : Int32) (res : Int32) (hm : mX2_joinsWithin F x1 T_count T_aparts = some res) : Ci D0 [(cI, .int), (cJ, .long), (cZ, .boolean), (cY, .array .int)] l0 yX2_joinsWithin wtX2_joinsWithin ({ frames := 0, cells := 0, slots := 0, locals := 0 }) [.ref aT, .int x1] (res) [(aT, .inr (2, [.ref aT_points, .int T_count, .ref aT_keys, .ref aT_aparts, .ref aT_roots, .ref aT_firsts, .ref aT_seconds, .ref aT_parts, .ref aT_firstSides, .ref aT_otherSides, .ref aT_joinsAbove, .ref aT_pointsAbove, .ref aT_pairs, .ref aT_links, .ref aT_nodes])), (aT_aparts, .inl (cI, 24, .inl T_aparts))] [(aT, .inr (2, [.ref aT_points, .int T_count, .ref aT_keys, .ref aT_aparts, .ref aT_roots, .ref aT_firsts, .ref aT_seconds, .ref aT_parts, .ref aT_firstSides, .ref aT_otherSides, .ref aT_joinsAbove, .ref aT_pointsAbove, .ref aT_pairs, .ref aT_links, .ref aT_nodes])), (aT_aparts, .inl (cI, 24, .inl T_aparts))] := by
  refine Ci.ofi cX2_joinsWithin 4 (own := RX2) (by decide +kernel) rfl rfl (Nat.le_of_ble_eq_true rfl) ?_
  intro X S hR0
  have hR : ∀ (r9 : Int32) (pc : Nat) (lv : List (Nat × Value)), some r9 = some res → decode cX2_joinsWithin pc = .ok (.ireturn, 1) → G X pc lv [.int (r9)] [(aT, .inr (2, [.ref aT_points, .int T_count, .ref aT_keys, .ref aT_aparts, .ref aT_roots, .ref aT_firsts, .ref aT_seconds, .ref aT_parts, .ref aT_firstSides, .ref aT_otherSides, .ref aT_joinsAbove, .ref aT_pointsAbove, .ref aT_pairs, .ref aT_links, .ref aT_nodes])), (aT_aparts, .inl (cI, 24, .inl T_aparts))] := fun r9 pc lv h9 hd => by cases h9; exact hR0 pc lv hd
  show G X 0 [(0, .ref aT), (1, .int x1)] [] [(aT, .inr (2, [.ref aT_points, .int T_count, .ref aT_keys, .ref aT_aparts, .ref aT_roots, .ref aT_firsts, .ref aT_seconds, .ref aT_parts, .ref aT_firstSides, .ref aT_otherSides, .ref aT_joinsAbove, .ref aT_pointsAbove, .ref aT_pairs, .ref aT_links, .ref aT_nodes])), (aT_aparts, .inl (cI, 24, .inl T_aparts))]
  unfold mX2_joinsWithin at hm
  refine r_sipush (v := (1024 : Int32)) S dX2_joinsWithin_0 rfl ?_
  refine r_iload_n S dX2_joinsWithin_3 rfl 1 rfl ?_
  refine r_ishr S dX2_joinsWithin_4 ?_
  obtain ⟨v1, h_v1, hm⟩ := bS hm
  refine r_topI h_v1 ?_
  refine r_istore_n S dX2_joinsWithin_5 rfl (Nat.le_of_ble_eq_true rfl) (lv' := [(2, .int v1), (0, .ref aT), (1, .int x1)]) rfl ?_
  refine r_iconst (v := (0 : Int32)) S dX2_joinsWithin_6 rfl ?_
  refine r_istore_n S dX2_joinsWithin_7 rfl (Nat.le_of_ble_eq_true rfl) (lv' := [(3, .int (0 : Int32)), (2, .int v1), (0, .ref aT), (1, .int x1)]) rfl ?_
  have hR8 : ∀ (r9 : Int32) (pc : Nat) (lv : List (Nat × Value)), r9 = res → decode cX2_joinsWithin pc = .ok (.ireturn, 1) → G X pc lv [.int (r9)] [(aT, .inr (2, [.ref aT_points, .int T_count, .ref aT_keys, .ref aT_aparts, .ref aT_roots, .ref aT_firsts, .ref aT_seconds, .ref aT_parts, .ref aT_firstSides, .ref aT_otherSides, .ref aT_joinsAbove, .ref aT_pointsAbove, .ref aT_pairs, .ref aT_links, .ref aT_nodes])), (aT_aparts, .inl (cI, 24, .inl T_aparts))] := fun r9 pc lv h9 hd => hR r9 pc lv (congrArg some h9) hd
  refine r_lv [2, 1, 0] (lv' := [(0, .ref aT), (2, .int v1), (3, .int (0 : Int32))]) rfl ?_
  refine loopG (r0 := res) (Gd := fun s9 => G X 8 [(0, .ref aT), (2, .int v1), (3, .int s9)] [] [(aT, .inr (2, [.ref aT_points, .int T_count, .ref aT_keys, .ref aT_aparts, .ref aT_roots, .ref aT_firsts, .ref aT_seconds, .ref aT_parts, .ref aT_firstSides, .ref aT_otherSides, .ref aT_joinsAbove, .ref aT_pointsAbove, .ref aT_pairs, .ref aT_links, .ref aT_nodes])), (aT_aparts, .inl (cI, 24, .inl T_aparts))]) ?_ _ _ hm
  intro x3_8 b8 hm hk8 hr8
  replace hm : mX2_joinsWithin_b8 F T_count T_aparts v1 x3_8 = some b8 := hm
  unfold mX2_joinsWithin_b8 at hm
  show G X 8 [(0, .ref aT), (2, .int v1), (3, .int x3_8)] [] [(aT, .inr (2, [.ref aT_points, .int T_count, .ref aT_keys, .ref aT_aparts, .ref aT_roots, .ref aT_firsts, .ref aT_seconds, .ref aT_parts, .ref aT_firstSides, .ref aT_otherSides, .ref aT_joinsAbove, .ref aT_pointsAbove, .ref aT_pairs, .ref aT_links, .ref aT_nodes])), (aT_aparts, .inl (cI, 24, .inl T_aparts))]
  refine r_iload_n S dX2_joinsWithin_8 rfl 2 rfl ?_
  refine r_aload_n S dX2_joinsWithin_9 rfl 0 rfl ?_
  refine r_get (T := TX2) (ci := 2) S (tlA inlX2) rfl 0 rfl 1 (Nat.le_of_ble_eq_true rfl) (tl u48) rfl dX2_joinsWithin_10 ?_
  refine r_icmp_ge 34 S dX2_joinsWithin_13 (by decide) (fun c3 => ?_) (fun c3 => ?_)
  · replace hm := iT c3 hm
    refine r_iload_n S dX2_joinsWithin_34 rfl 2 rfl ?_
    exact hR8 x3_8 _ _ (hr8 _ (Option.some.inj hm).symm) dX2_joinsWithin_35
  · replace hm := iF c3 hm
    refine r_aload_n S dX2_joinsWithin_16 rfl 0 rfl ?_
    refine r_get (T := TX2) (ci := 2) S (tlA inlX2) rfl 0 rfl 3 (Nat.le_of_ble_eq_true rfl) (tl u51) rfl dX2_joinsWithin_17 ?_
    refine r_iload_n S dX2_joinsWithin_20 rfl 2 rfl ?_
    obtain ⟨v4, h_v4, hm⟩ := bS hm
    refine r_iald S h_v4 1 0 rfl rfl dX2_joinsWithin_21 ?_
    refine r_iload_n S dX2_joinsWithin_22 rfl 1 rfl ?_
    refine r_iload_n S dX2_joinsWithin_23 rfl 1 rfl ?_
    refine r_imul S dX2_joinsWithin_24 ?_
    refine r_icmp_gt 34 S dX2_joinsWithin_25 (by decide) (fun c5 => ?_) (fun c5 => ?_)
    · replace hm := iT c5 hm
      refine r_iload_n S dX2_joinsWithin_34 rfl 2 rfl ?_
      exact hR8 x3_8 _ _ (hr8 _ (Option.some.inj hm).symm) dX2_joinsWithin_35
    · replace hm := iF c5 hm
      refine r_iincc S dX2_joinsWithin_28 2 rfl (c0 := (1 : Int32)) rfl rfl (Nat.le_of_ble_eq_true rfl) (lv' := [(3, .int (x3_8 + (1 : Int32))), (0, .ref aT), (2, .int v1)]) rfl ?_
      refine r_goto 8 S dX2_joinsWithin_31 (by decide) ?_
      refine r_lv [1, 2, 0] (lv' := [(0, .ref aT), (2, .int v1), (3, .int (x3_8 + (1 : Int32)))]) rfl ?_
      exact hk8 (x3_8 + (1 : Int32)) (Option.some.inj hm).symm
def wtX2_makerOf : List Cond := Cond.code yX2_makerOf cX2_makerOf 3 (some .int) :: wsL_law
theorem ok_X2_makerOf : CallOK yX2_makerOf wtX2_makerOf RX2 1 3 := ⟨⟨_, _, _, rfl⟩, rfl, ⟨by decide +kernel, by decide +kernel⟩, by decide +kernel⟩
set_option maxRecDepth 100000 in
set_option maxHeartbeats 4000000 in
theorem c_X2_makerOf (l0 : Launch) (D0 : va_G) (cI cJ cZ cY : ClassId) (F : Nat) (aT aT_points aT_keys aT_aparts aT_roots aT_firsts aT_seconds aT_parts aT_firstSides aT_otherSides aT_joinsAbove aT_pointsAbove aT_pairs aT_links aT_nodes : Nat) (T_count : Int32) (T_parts : Nat → Int32) (x1 : Int32) (res : Int32) (hm : mX2_makerOf F x1 T_count T_parts = some res) : Ci D0 [(cI, .int), (cJ, .long), (cZ, .boolean), (cY, .array .int)] l0 yX2_makerOf wtX2_makerOf ({ frames := 0, cells := 0, slots := 0, locals := 0 }) [.ref aT, .int x1] (res) [(aT, .inr (2, [.ref aT_points, .int T_count, .ref aT_keys, .ref aT_aparts, .ref aT_roots, .ref aT_firsts, .ref aT_seconds, .ref aT_parts, .ref aT_firstSides, .ref aT_otherSides, .ref aT_joinsAbove, .ref aT_pointsAbove, .ref aT_pairs, .ref aT_links, .ref aT_nodes])), (aT_parts, .inl (cI, 24, .inl T_parts))] [(aT, .inr (2, [.ref aT_points, .int T_count, .ref aT_keys, .ref aT_aparts, .ref aT_roots, .ref aT_firsts, .ref aT_seconds, .ref aT_parts, .ref aT_firstSides, .ref aT_otherSides, .ref aT_joinsAbove, .ref aT_pointsAbove, .ref aT_pairs, .ref aT_links, .ref aT_nodes])), (aT_parts, .inl (cI, 24, .inl T_parts))] := by
  refine Ci.ofi cX2_makerOf 3 (own := RX2) (by decide +kernel) rfl rfl (Nat.le_of_ble_eq_true rfl) ?_
  intro X S hR0
  have hR : ∀ (r9 : Int32) (pc : Nat) (lv : List (Nat × Value)), some r9 = some res → decode cX2_makerOf pc = .ok (.ireturn, 1) → G X pc lv [.int (r9)] [(aT, .inr (2, [.ref aT_points, .int T_count, .ref aT_keys, .ref aT_aparts, .ref aT_roots, .ref aT_firsts, .ref aT_seconds, .ref aT_parts, .ref aT_firstSides, .ref aT_otherSides, .ref aT_joinsAbove, .ref aT_pointsAbove, .ref aT_pairs, .ref aT_links, .ref aT_nodes])), (aT_parts, .inl (cI, 24, .inl T_parts))] := fun r9 pc lv h9 hd => by cases h9; exact hR0 pc lv hd
  show G X 0 [(0, .ref aT), (1, .int x1)] [] [(aT, .inr (2, [.ref aT_points, .int T_count, .ref aT_keys, .ref aT_aparts, .ref aT_roots, .ref aT_firsts, .ref aT_seconds, .ref aT_parts, .ref aT_firstSides, .ref aT_otherSides, .ref aT_joinsAbove, .ref aT_pointsAbove, .ref aT_pairs, .ref aT_links, .ref aT_nodes])), (aT_parts, .inl (cI, 24, .inl T_parts))]
  unfold mX2_makerOf at hm
  refine r_iconst (v := (0 : Int32)) S dX2_makerOf_0 rfl ?_
  refine r_istore_n S dX2_makerOf_1 rfl (Nat.le_of_ble_eq_true rfl) (lv' := [(2, .int (0 : Int32)), (0, .ref aT), (1, .int x1)]) rfl ?_
  have hR2 : ∀ (r9 : Int32) (pc : Nat) (lv : List (Nat × Value)), r9 = res → decode cX2_makerOf pc = .ok (.ireturn, 1) → G X pc lv [.int (r9)] [(aT, .inr (2, [.ref aT_points, .int T_count, .ref aT_keys, .ref aT_aparts, .ref aT_roots, .ref aT_firsts, .ref aT_seconds, .ref aT_parts, .ref aT_firstSides, .ref aT_otherSides, .ref aT_joinsAbove, .ref aT_pointsAbove, .ref aT_pairs, .ref aT_links, .ref aT_nodes])), (aT_parts, .inl (cI, 24, .inl T_parts))] := fun r9 pc lv h9 hd => hR r9 pc lv (congrArg some h9) hd
  refine r_lv [1, 2, 0] (lv' := [(0, .ref aT), (1, .int x1), (2, .int (0 : Int32))]) rfl ?_
  refine loopG (r0 := res) (Gd := fun s9 => G X 2 [(0, .ref aT), (1, .int x1), (2, .int s9)] [] [(aT, .inr (2, [.ref aT_points, .int T_count, .ref aT_keys, .ref aT_aparts, .ref aT_roots, .ref aT_firsts, .ref aT_seconds, .ref aT_parts, .ref aT_firstSides, .ref aT_otherSides, .ref aT_joinsAbove, .ref aT_pointsAbove, .ref aT_pairs, .ref aT_links, .ref aT_nodes])), (aT_parts, .inl (cI, 24, .inl T_parts))]) ?_ _ _ hm
  intro x2_2 b2 hm hk2 hr2
  replace hm : mX2_makerOf_b2 F x1 T_count T_parts x2_2 = some b2 := hm
  unfold mX2_makerOf_b2 at hm
  show G X 2 [(0, .ref aT), (1, .int x1), (2, .int x2_2)] [] [(aT, .inr (2, [.ref aT_points, .int T_count, .ref aT_keys, .ref aT_aparts, .ref aT_roots, .ref aT_firsts, .ref aT_seconds, .ref aT_parts, .ref aT_firstSides, .ref aT_otherSides, .ref aT_joinsAbove, .ref aT_pointsAbove, .ref aT_pairs, .ref aT_links, .ref aT_nodes])), (aT_parts, .inl (cI, 24, .inl T_parts))]
  refine r_iload_n S dX2_makerOf_2 rfl 2 rfl ?_
  refine r_aload_n S dX2_makerOf_3 rfl 0 rfl ?_
  refine r_get (T := TX2) (ci := 2) S (tlA inlX2) rfl 0 rfl 1 (Nat.le_of_ble_eq_true rfl) (tl u48) rfl dX2_makerOf_4 ?_
  refine r_icmp_ge 28 S dX2_makerOf_7 (by decide) (fun c2 => ?_) (fun c2 => ?_)
  · replace hm := iT c2 hm
    refine r_iconst (v := (-1 : Int32)) S dX2_makerOf_28 rfl ?_
    exact hR2 (-1 : Int32) _ _ (hr2 _ (Option.some.inj hm).symm) dX2_makerOf_29
  · replace hm := iF c2 hm
    refine r_aload_n S dX2_makerOf_10 rfl 0 rfl ?_
    refine r_get (T := TX2) (ci := 2) S (tlA inlX2) rfl 0 rfl 7 (Nat.le_of_ble_eq_true rfl) (tl u55) rfl dX2_makerOf_11 ?_
    refine r_iload_n S dX2_makerOf_14 rfl 2 rfl ?_
    obtain ⟨v3, h_v3, hm⟩ := bS hm
    refine r_iald S h_v3 1 0 rfl rfl dX2_makerOf_15 ?_
    refine r_iload_n S dX2_makerOf_16 rfl 1 rfl ?_
    refine r_icmp_ne 22 S dX2_makerOf_17 (by decide) (fun c4 => ?_) (fun c4 => ?_)
    · replace hm := iF c4 hm
      refine r_iincc S dX2_makerOf_22 2 rfl (c0 := (1 : Int32)) rfl rfl (Nat.le_of_ble_eq_true rfl) (lv' := [(2, .int (x2_2 + (1 : Int32))), (0, .ref aT), (1, .int x1)]) rfl ?_
      refine r_goto 2 S dX2_makerOf_25 (by decide) ?_
      refine r_lv [1, 2, 0] (lv' := [(0, .ref aT), (1, .int x1), (2, .int (x2_2 + (1 : Int32)))]) rfl ?_
      exact hk2 (x2_2 + (1 : Int32)) (Option.some.inj hm).symm
    · replace hm := iT c4 hm
      refine r_iload_n S dX2_makerOf_20 rfl 2 rfl ?_
      exact hR2 x2_2 _ _ (hr2 _ (Option.some.inj hm).symm) dX2_makerOf_21
def wtX2_linksOf : List Cond := Cond.code yX2_linksOf cX2_linksOf 4 (some .int) :: wsL_law
theorem ok_X2_linksOf : CallOK yX2_linksOf wtX2_linksOf RX2 1 4 := ⟨⟨_, _, _, rfl⟩, rfl, ⟨by decide +kernel, by decide +kernel⟩, by decide +kernel⟩
set_option maxRecDepth 100000 in
set_option maxHeartbeats 4000000 in
theorem c_X2_linksOf (l0 : Launch) (D0 : va_G) (cI cJ cZ cY : ClassId) (F : Nat) (aT aT_points aT_keys aT_aparts aT_roots aT_firsts aT_seconds aT_parts aT_firstSides aT_otherSides aT_joinsAbove aT_pointsAbove aT_pairs aT_links aT_nodes : Nat) (T_count : Int32) (T_firsts : Nat → Int32) (T_seconds : Nat → Int32) (x1 : Int32) (res : Int32) (hm : mX2_linksOf F x1 T_count T_firsts T_seconds = some res) : Ci D0 [(cI, .int), (cJ, .long), (cZ, .boolean), (cY, .array .int)] l0 yX2_linksOf wtX2_linksOf ({ frames := 0, cells := 0, slots := 0, locals := 0 }) [.ref aT, .int x1] (res) [(aT, .inr (2, [.ref aT_points, .int T_count, .ref aT_keys, .ref aT_aparts, .ref aT_roots, .ref aT_firsts, .ref aT_seconds, .ref aT_parts, .ref aT_firstSides, .ref aT_otherSides, .ref aT_joinsAbove, .ref aT_pointsAbove, .ref aT_pairs, .ref aT_links, .ref aT_nodes])), (aT_firsts, .inl (cI, 24, .inl T_firsts)), (aT_seconds, .inl (cI, 24, .inl T_seconds))] [(aT, .inr (2, [.ref aT_points, .int T_count, .ref aT_keys, .ref aT_aparts, .ref aT_roots, .ref aT_firsts, .ref aT_seconds, .ref aT_parts, .ref aT_firstSides, .ref aT_otherSides, .ref aT_joinsAbove, .ref aT_pointsAbove, .ref aT_pairs, .ref aT_links, .ref aT_nodes])), (aT_firsts, .inl (cI, 24, .inl T_firsts)), (aT_seconds, .inl (cI, 24, .inl T_seconds))] := by
  refine Ci.ofi cX2_linksOf 4 (own := RX2) (by decide +kernel) rfl rfl (Nat.le_of_ble_eq_true rfl) ?_
  intro X S hR0
  have hR : ∀ (r9 : Int32) (pc : Nat) (lv : List (Nat × Value)), some r9 = some res → decode cX2_linksOf pc = .ok (.ireturn, 1) → G X pc lv [.int (r9)] [(aT, .inr (2, [.ref aT_points, .int T_count, .ref aT_keys, .ref aT_aparts, .ref aT_roots, .ref aT_firsts, .ref aT_seconds, .ref aT_parts, .ref aT_firstSides, .ref aT_otherSides, .ref aT_joinsAbove, .ref aT_pointsAbove, .ref aT_pairs, .ref aT_links, .ref aT_nodes])), (aT_firsts, .inl (cI, 24, .inl T_firsts)), (aT_seconds, .inl (cI, 24, .inl T_seconds))] := fun r9 pc lv h9 hd => by cases h9; exact hR0 pc lv hd
  show G X 0 [(0, .ref aT), (1, .int x1)] [] [(aT, .inr (2, [.ref aT_points, .int T_count, .ref aT_keys, .ref aT_aparts, .ref aT_roots, .ref aT_firsts, .ref aT_seconds, .ref aT_parts, .ref aT_firstSides, .ref aT_otherSides, .ref aT_joinsAbove, .ref aT_pointsAbove, .ref aT_pairs, .ref aT_links, .ref aT_nodes])), (aT_firsts, .inl (cI, 24, .inl T_firsts)), (aT_seconds, .inl (cI, 24, .inl T_seconds))]
  unfold mX2_linksOf at hm
  refine r_iconst (v := (0 : Int32)) S dX2_linksOf_0 rfl ?_
  refine r_istore_n S dX2_linksOf_1 rfl (Nat.le_of_ble_eq_true rfl) (lv' := [(2, .int (0 : Int32)), (0, .ref aT), (1, .int x1)]) rfl ?_
  refine r_iconst (v := (0 : Int32)) S dX2_linksOf_2 rfl ?_
  refine r_istore_n S dX2_linksOf_3 rfl (Nat.le_of_ble_eq_true rfl) (lv' := [(3, .int (0 : Int32)), (2, .int (0 : Int32)), (0, .ref aT), (1, .int x1)]) rfl ?_
  have hR4 : ∀ (r9 : Int32) (pc : Nat) (lv : List (Nat × Value)), r9 = res → decode cX2_linksOf pc = .ok (.ireturn, 1) → G X pc lv [.int (r9)] [(aT, .inr (2, [.ref aT_points, .int T_count, .ref aT_keys, .ref aT_aparts, .ref aT_roots, .ref aT_firsts, .ref aT_seconds, .ref aT_parts, .ref aT_firstSides, .ref aT_otherSides, .ref aT_joinsAbove, .ref aT_pointsAbove, .ref aT_pairs, .ref aT_links, .ref aT_nodes])), (aT_firsts, .inl (cI, 24, .inl T_firsts)), (aT_seconds, .inl (cI, 24, .inl T_seconds))] := fun r9 pc lv h9 hd => hR r9 pc lv (congrArg some h9) hd
  refine r_lv [2, 3, 1, 0] (lv' := [(0, .ref aT), (1, .int x1), (2, .int (0 : Int32)), (3, .int (0 : Int32))]) rfl ?_
  refine loopG (r0 := res) (Gd := fun s9 => G X 4 [(0, .ref aT), (1, .int x1), (2, .int s9.1), (3, .int s9.2)] [] [(aT, .inr (2, [.ref aT_points, .int T_count, .ref aT_keys, .ref aT_aparts, .ref aT_roots, .ref aT_firsts, .ref aT_seconds, .ref aT_parts, .ref aT_firstSides, .ref aT_otherSides, .ref aT_joinsAbove, .ref aT_pointsAbove, .ref aT_pairs, .ref aT_links, .ref aT_nodes])), (aT_firsts, .inl (cI, 24, .inl T_firsts)), (aT_seconds, .inl (cI, 24, .inl T_seconds))]) ?_ _ _ hm
  rintro ⟨x2_4, x3_4⟩ b4 hm hk4 hr4
  replace hm : mX2_linksOf_b4 F x1 T_count T_firsts T_seconds x2_4 x3_4 = some b4 := hm
  unfold mX2_linksOf_b4 at hm
  show G X 4 [(0, .ref aT), (1, .int x1), (2, .int x2_4), (3, .int x3_4)] [] [(aT, .inr (2, [.ref aT_points, .int T_count, .ref aT_keys, .ref aT_aparts, .ref aT_roots, .ref aT_firsts, .ref aT_seconds, .ref aT_parts, .ref aT_firstSides, .ref aT_otherSides, .ref aT_joinsAbove, .ref aT_pointsAbove, .ref aT_pairs, .ref aT_links, .ref aT_nodes])), (aT_firsts, .inl (cI, 24, .inl T_firsts)), (aT_seconds, .inl (cI, 24, .inl T_seconds))]
  refine r_iload_n S dX2_linksOf_4 rfl 3 rfl ?_
  refine r_aload_n S dX2_linksOf_5 rfl 0 rfl ?_
  refine r_get (T := TX2) (ci := 2) S (tlA inlX2) rfl 0 rfl 1 (Nat.le_of_ble_eq_true rfl) (tl u48) rfl dX2_linksOf_6 ?_
  refine r_icmp_ge 41 S dX2_linksOf_9 (by decide) (fun c2 => ?_) (fun c2 => ?_)
  · replace hm := iT c2 hm
    refine r_iload_n S dX2_linksOf_41 rfl 2 rfl ?_
    exact hR4 x2_4 _ _ (hr4 _ (Option.some.inj hm).symm) dX2_linksOf_42
  · replace hm := iF c2 hm
    refine r_aload_n S dX2_linksOf_12 rfl 0 rfl ?_
    refine r_get (T := TX2) (ci := 2) S (tlA inlX2) rfl 0 rfl 5 (Nat.le_of_ble_eq_true rfl) (tl u53) rfl dX2_linksOf_13 ?_
    refine r_iload_n S dX2_linksOf_16 rfl 3 rfl ?_
    obtain ⟨v3, h_v3, hm⟩ := bS hm
    refine r_iald S h_v3 1 0 rfl rfl dX2_linksOf_17 ?_
    refine r_iload_n S dX2_linksOf_18 rfl 1 rfl ?_
    refine r_icmp_eq 32 S dX2_linksOf_19 (by decide) (fun c4 => ?_) (fun c4 => ?_)
    · replace hm := iT c4 hm
      obtain ⟨v5, h_v5, hm⟩ := bS hm
      refine r_iincc S dX2_linksOf_32 2 rfl (c0 := (1 : Int32)) rfl (Option.some.inj h_v5) (Nat.le_of_ble_eq_true rfl) (lv' := [(2, .int v5), (0, .ref aT), (1, .int x1), (3, .int x3_4)]) rfl ?_
      refine r_iincc S dX2_linksOf_35 3 rfl (c0 := (1 : Int32)) rfl rfl (Nat.le_of_ble_eq_true rfl) (lv' := [(3, .int (x3_4 + (1 : Int32))), (2, .int v5), (0, .ref aT), (1, .int x1)]) rfl ?_
      refine r_goto 4 S dX2_linksOf_38 (by decide) ?_
      refine r_lv [2, 3, 1, 0] (lv' := [(0, .ref aT), (1, .int x1), (2, .int v5), (3, .int (x3_4 + (1 : Int32)))]) rfl ?_
      exact hk4 (v5, (x3_4 + (1 : Int32))) (Option.some.inj hm).symm
    · replace hm := iF c4 hm
      refine r_aload_n S dX2_linksOf_22 rfl 0 rfl ?_
      refine r_get (T := TX2) (ci := 2) S (tlA inlX2) rfl 0 rfl 6 (Nat.le_of_ble_eq_true rfl) (tl u54) rfl dX2_linksOf_23 ?_
      refine r_iload_n S dX2_linksOf_26 rfl 3 rfl ?_
      obtain ⟨v6, h_v6, hm⟩ := bS hm
      refine r_iald S h_v6 2 0 rfl rfl dX2_linksOf_27 ?_
      refine r_iload_n S dX2_linksOf_28 rfl 1 rfl ?_
      refine r_icmp_ne 35 S dX2_linksOf_29 (by decide) (fun c7 => ?_) (fun c7 => ?_)
      · replace hm := iF c7 hm
        refine r_iincc S dX2_linksOf_35 3 rfl (c0 := (1 : Int32)) rfl rfl (Nat.le_of_ble_eq_true rfl) (lv' := [(3, .int (x3_4 + (1 : Int32))), (0, .ref aT), (1, .int x1), (2, .int x2_4)]) rfl ?_
        refine r_goto 4 S dX2_linksOf_38 (by decide) ?_
        refine r_lv [1, 2, 3, 0] (lv' := [(0, .ref aT), (1, .int x1), (2, .int x2_4), (3, .int (x3_4 + (1 : Int32)))]) rfl ?_
        exact hk4 (x2_4, (x3_4 + (1 : Int32))) (Option.some.inj hm).symm
      · replace hm := iT c7 hm
        obtain ⟨v8, h_v8, hm⟩ := bS hm
        refine r_iincc S dX2_linksOf_32 2 rfl (c0 := (1 : Int32)) rfl (Option.some.inj h_v8) (Nat.le_of_ble_eq_true rfl) (lv' := [(2, .int v8), (0, .ref aT), (1, .int x1), (3, .int x3_4)]) rfl ?_
        refine r_iincc S dX2_linksOf_35 3 rfl (c0 := (1 : Int32)) rfl rfl (Nat.le_of_ble_eq_true rfl) (lv' := [(3, .int (x3_4 + (1 : Int32))), (2, .int v8), (0, .ref aT), (1, .int x1)]) rfl ?_
        refine r_goto 4 S dX2_linksOf_38 (by decide) ?_
        refine r_lv [2, 3, 1, 0] (lv' := [(0, .ref aT), (1, .int x1), (2, .int v8), (3, .int (x3_4 + (1 : Int32)))]) rfl ?_
        exact hk4 (v8, (x3_4 + (1 : Int32))) (Option.some.inj hm).symm
def wtX2_mostLinks : List Cond := Cond.code yX2_mostLinks cX2_mostLinks 3 (some .int) :: wsL_law
theorem ok_X2_mostLinks : CallOK yX2_mostLinks wtX2_mostLinks RX2 0 3 := ⟨⟨_, _, _, rfl⟩, rfl, ⟨by decide +kernel, by decide +kernel⟩, by decide +kernel⟩
set_option maxRecDepth 100000 in
set_option maxHeartbeats 4000000 in
theorem c_X2_mostLinks (l0 : Launch) (D0 : va_G) (cI cJ cZ cY : ClassId) (F : Nat) (aT aT_points aT_keys aT_aparts aT_roots aT_firsts aT_seconds aT_parts aT_firstSides aT_otherSides aT_joinsAbove aT_pointsAbove aT_pairs aT_links aT_nodes aT_points_xs aT_points_ys aT_points_ws : Nat) (T_count : Int32) (T_points_count : Int32) (T_firsts : Nat → Int32) (T_seconds : Nat → Int32) (res : Int32) (hm : mX2_mostLinks F T_count T_points_count T_firsts T_seconds = some res) : Ci D0 [(cI, .int), (cJ, .long), (cZ, .boolean), (cY, .array .int)] l0 yX2_mostLinks wtX2_mostLinks ({ frames := 1, cells := 0, slots := 0, locals := 23 }) [.ref aT] (res) [(aT, .inr (2, [.ref aT_points, .int T_count, .ref aT_keys, .ref aT_aparts, .ref aT_roots, .ref aT_firsts, .ref aT_seconds, .ref aT_parts, .ref aT_firstSides, .ref aT_otherSides, .ref aT_joinsAbove, .ref aT_pointsAbove, .ref aT_pairs, .ref aT_links, .ref aT_nodes])), (aT_points, .inr (4, [.int T_points_count, .ref aT_points_xs, .ref aT_points_ys, .ref aT_points_ws])), (aT_firsts, .inl (cI, 24, .inl T_firsts)), (aT_seconds, .inl (cI, 24, .inl T_seconds))] [(aT, .inr (2, [.ref aT_points, .int T_count, .ref aT_keys, .ref aT_aparts, .ref aT_roots, .ref aT_firsts, .ref aT_seconds, .ref aT_parts, .ref aT_firstSides, .ref aT_otherSides, .ref aT_joinsAbove, .ref aT_pointsAbove, .ref aT_pairs, .ref aT_links, .ref aT_nodes])), (aT_points, .inr (4, [.int T_points_count, .ref aT_points_xs, .ref aT_points_ys, .ref aT_points_ws])), (aT_firsts, .inl (cI, 24, .inl T_firsts)), (aT_seconds, .inl (cI, 24, .inl T_seconds))] := by
  refine Ci.ofi cX2_mostLinks 3 (own := RX2) (by decide +kernel) rfl rfl (Nat.le_of_ble_eq_true rfl) ?_
  intro X S hR0
  have hR : ∀ (r9 : Int32) (pc : Nat) (lv : List (Nat × Value)), some r9 = some res → decode cX2_mostLinks pc = .ok (.ireturn, 1) → G X pc lv [.int (r9)] [(aT, .inr (2, [.ref aT_points, .int T_count, .ref aT_keys, .ref aT_aparts, .ref aT_roots, .ref aT_firsts, .ref aT_seconds, .ref aT_parts, .ref aT_firstSides, .ref aT_otherSides, .ref aT_joinsAbove, .ref aT_pointsAbove, .ref aT_pairs, .ref aT_links, .ref aT_nodes])), (aT_points, .inr (4, [.int T_points_count, .ref aT_points_xs, .ref aT_points_ys, .ref aT_points_ws])), (aT_firsts, .inl (cI, 24, .inl T_firsts)), (aT_seconds, .inl (cI, 24, .inl T_seconds))] := fun r9 pc lv h9 hd => by cases h9; exact hR0 pc lv hd
  show G X 0 [(0, .ref aT)] [] [(aT, .inr (2, [.ref aT_points, .int T_count, .ref aT_keys, .ref aT_aparts, .ref aT_roots, .ref aT_firsts, .ref aT_seconds, .ref aT_parts, .ref aT_firstSides, .ref aT_otherSides, .ref aT_joinsAbove, .ref aT_pointsAbove, .ref aT_pairs, .ref aT_links, .ref aT_nodes])), (aT_points, .inr (4, [.int T_points_count, .ref aT_points_xs, .ref aT_points_ys, .ref aT_points_ws])), (aT_firsts, .inl (cI, 24, .inl T_firsts)), (aT_seconds, .inl (cI, 24, .inl T_seconds))]
  unfold mX2_mostLinks at hm
  refine r_iconst (v := (0 : Int32)) S dX2_mostLinks_0 rfl ?_
  refine r_istore_n S dX2_mostLinks_1 rfl (Nat.le_of_ble_eq_true rfl) (lv' := [(1, .int (0 : Int32)), (0, .ref aT)]) rfl ?_
  refine r_iconst (v := (0 : Int32)) S dX2_mostLinks_2 rfl ?_
  refine r_istore_n S dX2_mostLinks_3 rfl (Nat.le_of_ble_eq_true rfl) (lv' := [(2, .int (0 : Int32)), (1, .int (0 : Int32)), (0, .ref aT)]) rfl ?_
  have hR4 : ∀ (r9 : Int32) (pc : Nat) (lv : List (Nat × Value)), r9 = res → decode cX2_mostLinks pc = .ok (.ireturn, 1) → G X pc lv [.int (r9)] [(aT, .inr (2, [.ref aT_points, .int T_count, .ref aT_keys, .ref aT_aparts, .ref aT_roots, .ref aT_firsts, .ref aT_seconds, .ref aT_parts, .ref aT_firstSides, .ref aT_otherSides, .ref aT_joinsAbove, .ref aT_pointsAbove, .ref aT_pairs, .ref aT_links, .ref aT_nodes])), (aT_points, .inr (4, [.int T_points_count, .ref aT_points_xs, .ref aT_points_ys, .ref aT_points_ws])), (aT_firsts, .inl (cI, 24, .inl T_firsts)), (aT_seconds, .inl (cI, 24, .inl T_seconds))] := fun r9 pc lv h9 hd => hR r9 pc lv (congrArg some h9) hd
  refine r_lv [2, 1, 0] (lv' := [(0, .ref aT), (1, .int (0 : Int32)), (2, .int (0 : Int32))]) rfl ?_
  refine loopG (r0 := res) (Gd := fun s9 => G X 4 [(0, .ref aT), (1, .int s9.1), (2, .int s9.2)] [] [(aT, .inr (2, [.ref aT_points, .int T_count, .ref aT_keys, .ref aT_aparts, .ref aT_roots, .ref aT_firsts, .ref aT_seconds, .ref aT_parts, .ref aT_firstSides, .ref aT_otherSides, .ref aT_joinsAbove, .ref aT_pointsAbove, .ref aT_pairs, .ref aT_links, .ref aT_nodes])), (aT_points, .inr (4, [.int T_points_count, .ref aT_points_xs, .ref aT_points_ys, .ref aT_points_ws])), (aT_firsts, .inl (cI, 24, .inl T_firsts)), (aT_seconds, .inl (cI, 24, .inl T_seconds))]) ?_ _ _ hm
  rintro ⟨x1_4, x2_4⟩ b4 hm hk4 hr4
  replace hm : mX2_mostLinks_b4 F T_count T_points_count T_firsts T_seconds x1_4 x2_4 = some b4 := hm
  unfold mX2_mostLinks_b4 at hm
  show G X 4 [(0, .ref aT), (1, .int x1_4), (2, .int x2_4)] [] [(aT, .inr (2, [.ref aT_points, .int T_count, .ref aT_keys, .ref aT_aparts, .ref aT_roots, .ref aT_firsts, .ref aT_seconds, .ref aT_parts, .ref aT_firstSides, .ref aT_otherSides, .ref aT_joinsAbove, .ref aT_pointsAbove, .ref aT_pairs, .ref aT_links, .ref aT_nodes])), (aT_points, .inr (4, [.int T_points_count, .ref aT_points_xs, .ref aT_points_ys, .ref aT_points_ws])), (aT_firsts, .inl (cI, 24, .inl T_firsts)), (aT_seconds, .inl (cI, 24, .inl T_seconds))]
  refine r_iload_n S dX2_mostLinks_4 rfl 2 rfl ?_
  refine r_aload_n S dX2_mostLinks_5 rfl 0 rfl ?_
  refine r_get (T := TX2) (ci := 2) S (tlA inlX2) rfl 0 rfl 0 (Nat.le_of_ble_eq_true rfl) (tl u47) rfl dX2_mostLinks_6 ?_
  refine r_get (T := TX4) (ci := 4) S (tlA inlX4) rfl 1 rfl 0 (Nat.le_of_ble_eq_true rfl) (tl u165) rfl dX2_mostLinks_9 ?_
  refine r_icmp_ge 31 S dX2_mostLinks_12 (by decide) (fun c2 => ?_) (fun c2 => ?_)
  · replace hm := iT c2 hm
    refine r_iload_n S dX2_mostLinks_31 rfl 1 rfl ?_
    exact hR4 x1_4 _ _ (hr4 _ (Option.some.inj hm).symm) dX2_mostLinks_32
  · replace hm := iF c2 hm
    refine r_iload_n S dX2_mostLinks_15 rfl 1 rfl ?_
    refine r_aload_n S dX2_mostLinks_16 rfl 0 rfl ?_
    refine r_iload_n S dX2_mostLinks_17 rfl 2 rfl ?_
    obtain ⟨r3, h_r3, hm⟩ := bS hm
    refine r_calliV S (c_X2_linksOf l0 D0 cI cJ cZ cY F aT aT_points aT_keys aT_aparts aT_roots aT_firsts aT_seconds aT_parts aT_firstSides aT_otherSides aT_joinsAbove aT_pointsAbove aT_pairs aT_links aT_nodes T_count T_firsts T_seconds x2_4 _ h_r3) (gV u268 u269 u270 u11 u271) ok_X2_linksOf ⟨rfl, rfl⟩ ⟨Nat.le_of_ble_eq_true rfl, Nat.le_of_ble_eq_true rfl⟩ [0, 2, 3] [1] rfl (wr := [(aT_points, .inr (4, [.int T_points_count, .ref aT_points_xs, .ref aT_points_ys, .ref aT_points_ws]))]) rfl rfl rfl (by decide) (ci := 2) (T := TX2) 0 rfl rfl (ws' := [(aT_points, .inr (4, [.int T_points_count, .ref aT_points_xs, .ref aT_points_ys, .ref aT_points_ws])), (aT, .inr (2, [.ref aT_points, .int T_count, .ref aT_keys, .ref aT_aparts, .ref aT_roots, .ref aT_firsts, .ref aT_seconds, .ref aT_parts, .ref aT_firstSides, .ref aT_otherSides, .ref aT_joinsAbove, .ref aT_pointsAbove, .ref aT_pairs, .ref aT_links, .ref aT_nodes])), (aT_firsts, .inl (cI, 24, .inl T_firsts)), (aT_seconds, .inl (cI, 24, .inl T_seconds))]) rfl (As := [.int x2_4]) (rest := [.int x1_4]) rfl rfl (Nat.le_of_ble_eq_true rfl) dX2_mostLinks_18 ?_
    refine r_mmax S (tl u181) (tl u182) (tl u172) (tl u183) (Nat.le_of_ble_eq_true rfl) (Nat.le_of_ble_eq_true rfl) dX2_mostLinks_21 ?_
    obtain ⟨v4, h_v4, hm⟩ := bS hm
    refine r_topI h_v4 ?_
    refine r_istore_n S dX2_mostLinks_24 rfl (Nat.le_of_ble_eq_true rfl) (lv' := [(1, .int v4), (0, .ref aT), (2, .int x2_4)]) rfl ?_
    refine r_iincc S dX2_mostLinks_25 2 rfl (c0 := (1 : Int32)) rfl rfl (Nat.le_of_ble_eq_true rfl) (lv' := [(2, .int (x2_4 + (1 : Int32))), (1, .int v4), (0, .ref aT)]) rfl ?_
    refine r_goto 4 S dX2_mostLinks_28 (by decide) ?_
    refine r_perm [1, 0, 2, 3] (ws' := [(aT, .inr (2, [.ref aT_points, .int T_count, .ref aT_keys, .ref aT_aparts, .ref aT_roots, .ref aT_firsts, .ref aT_seconds, .ref aT_parts, .ref aT_firstSides, .ref aT_otherSides, .ref aT_joinsAbove, .ref aT_pointsAbove, .ref aT_pairs, .ref aT_links, .ref aT_nodes])), (aT_points, .inr (4, [.int T_points_count, .ref aT_points_xs, .ref aT_points_ys, .ref aT_points_ws])), (aT_firsts, .inl (cI, 24, .inl T_firsts)), (aT_seconds, .inl (cI, 24, .inl T_seconds))]) rfl rfl ?_
    refine r_lv [2, 1, 0] (lv' := [(0, .ref aT), (1, .int v4), (2, .int (x2_4 + (1 : Int32)))]) rfl ?_
    exact hk4 (v4, (x2_4 + (1 : Int32))) (Option.some.inj hm).symm
def wtX2_sumAparts : List Cond := Cond.code yX2_sumAparts cX2_sumAparts 3 (some .int) :: wsL_law
theorem ok_X2_sumAparts : CallOK yX2_sumAparts wtX2_sumAparts RX2 0 3 := ⟨⟨_, _, _, rfl⟩, rfl, ⟨by decide +kernel, by decide +kernel⟩, by decide +kernel⟩
set_option maxRecDepth 100000 in
set_option maxHeartbeats 4000000 in
theorem c_X2_sumAparts (l0 : Launch) (D0 : va_G) (cI cJ cZ cY : ClassId) (F : Nat) (aT aT_points aT_keys aT_aparts aT_roots aT_firsts aT_seconds aT_parts aT_firstSides aT_otherSides aT_joinsAbove aT_pointsAbove aT_pairs aT_links aT_nodes : Nat) (T_count : Int32) (T_aparts : Nat → Int32) (res : Int32) (hm : mX2_sumAparts F T_count T_aparts = some res) : Ci D0 [(cI, .int), (cJ, .long), (cZ, .boolean), (cY, .array .int)] l0 yX2_sumAparts wtX2_sumAparts ({ frames := 0, cells := 0, slots := 0, locals := 0 }) [.ref aT] (res) [(aT, .inr (2, [.ref aT_points, .int T_count, .ref aT_keys, .ref aT_aparts, .ref aT_roots, .ref aT_firsts, .ref aT_seconds, .ref aT_parts, .ref aT_firstSides, .ref aT_otherSides, .ref aT_joinsAbove, .ref aT_pointsAbove, .ref aT_pairs, .ref aT_links, .ref aT_nodes])), (aT_aparts, .inl (cI, 24, .inl T_aparts))] [(aT, .inr (2, [.ref aT_points, .int T_count, .ref aT_keys, .ref aT_aparts, .ref aT_roots, .ref aT_firsts, .ref aT_seconds, .ref aT_parts, .ref aT_firstSides, .ref aT_otherSides, .ref aT_joinsAbove, .ref aT_pointsAbove, .ref aT_pairs, .ref aT_links, .ref aT_nodes])), (aT_aparts, .inl (cI, 24, .inl T_aparts))] := by
  refine Ci.ofi cX2_sumAparts 3 (own := RX2) (by decide +kernel) rfl rfl (Nat.le_of_ble_eq_true rfl) ?_
  intro X S hR0
  have hR : ∀ (r9 : Int32) (pc : Nat) (lv : List (Nat × Value)), some r9 = some res → decode cX2_sumAparts pc = .ok (.ireturn, 1) → G X pc lv [.int (r9)] [(aT, .inr (2, [.ref aT_points, .int T_count, .ref aT_keys, .ref aT_aparts, .ref aT_roots, .ref aT_firsts, .ref aT_seconds, .ref aT_parts, .ref aT_firstSides, .ref aT_otherSides, .ref aT_joinsAbove, .ref aT_pointsAbove, .ref aT_pairs, .ref aT_links, .ref aT_nodes])), (aT_aparts, .inl (cI, 24, .inl T_aparts))] := fun r9 pc lv h9 hd => by cases h9; exact hR0 pc lv hd
  show G X 0 [(0, .ref aT)] [] [(aT, .inr (2, [.ref aT_points, .int T_count, .ref aT_keys, .ref aT_aparts, .ref aT_roots, .ref aT_firsts, .ref aT_seconds, .ref aT_parts, .ref aT_firstSides, .ref aT_otherSides, .ref aT_joinsAbove, .ref aT_pointsAbove, .ref aT_pairs, .ref aT_links, .ref aT_nodes])), (aT_aparts, .inl (cI, 24, .inl T_aparts))]
  unfold mX2_sumAparts at hm
  refine r_iconst (v := (0 : Int32)) S dX2_sumAparts_0 rfl ?_
  refine r_istore_n S dX2_sumAparts_1 rfl (Nat.le_of_ble_eq_true rfl) (lv' := [(1, .int (0 : Int32)), (0, .ref aT)]) rfl ?_
  refine r_iconst (v := (0 : Int32)) S dX2_sumAparts_2 rfl ?_
  refine r_istore_n S dX2_sumAparts_3 rfl (Nat.le_of_ble_eq_true rfl) (lv' := [(2, .int (0 : Int32)), (1, .int (0 : Int32)), (0, .ref aT)]) rfl ?_
  have hR4 : ∀ (r9 : Int32) (pc : Nat) (lv : List (Nat × Value)), r9 = res → decode cX2_sumAparts pc = .ok (.ireturn, 1) → G X pc lv [.int (r9)] [(aT, .inr (2, [.ref aT_points, .int T_count, .ref aT_keys, .ref aT_aparts, .ref aT_roots, .ref aT_firsts, .ref aT_seconds, .ref aT_parts, .ref aT_firstSides, .ref aT_otherSides, .ref aT_joinsAbove, .ref aT_pointsAbove, .ref aT_pairs, .ref aT_links, .ref aT_nodes])), (aT_aparts, .inl (cI, 24, .inl T_aparts))] := fun r9 pc lv h9 hd => hR r9 pc lv (congrArg some h9) hd
  refine r_lv [2, 1, 0] (lv' := [(0, .ref aT), (1, .int (0 : Int32)), (2, .int (0 : Int32))]) rfl ?_
  refine loopG (r0 := res) (Gd := fun s9 => G X 4 [(0, .ref aT), (1, .int s9.1), (2, .int s9.2)] [] [(aT, .inr (2, [.ref aT_points, .int T_count, .ref aT_keys, .ref aT_aparts, .ref aT_roots, .ref aT_firsts, .ref aT_seconds, .ref aT_parts, .ref aT_firstSides, .ref aT_otherSides, .ref aT_joinsAbove, .ref aT_pointsAbove, .ref aT_pairs, .ref aT_links, .ref aT_nodes])), (aT_aparts, .inl (cI, 24, .inl T_aparts))]) ?_ _ _ hm
  rintro ⟨x1_4, x2_4⟩ b4 hm hk4 hr4
  replace hm : mX2_sumAparts_b4 F T_count T_aparts x1_4 x2_4 = some b4 := hm
  unfold mX2_sumAparts_b4 at hm
  show G X 4 [(0, .ref aT), (1, .int x1_4), (2, .int x2_4)] [] [(aT, .inr (2, [.ref aT_points, .int T_count, .ref aT_keys, .ref aT_aparts, .ref aT_roots, .ref aT_firsts, .ref aT_seconds, .ref aT_parts, .ref aT_firstSides, .ref aT_otherSides, .ref aT_joinsAbove, .ref aT_pointsAbove, .ref aT_pairs, .ref aT_links, .ref aT_nodes])), (aT_aparts, .inl (cI, 24, .inl T_aparts))]
  refine r_iload_n S dX2_sumAparts_4 rfl 2 rfl ?_
  refine r_aload_n S dX2_sumAparts_5 rfl 0 rfl ?_
  refine r_get (T := TX2) (ci := 2) S (tlA inlX2) rfl 0 rfl 1 (Nat.le_of_ble_eq_true rfl) (tl u48) rfl dX2_sumAparts_6 ?_
  refine r_icmp_ge 27 S dX2_sumAparts_9 (by decide) (fun c2 => ?_) (fun c2 => ?_)
  · replace hm := iT c2 hm
    refine r_iload_n S dX2_sumAparts_27 rfl 1 rfl ?_
    exact hR4 x1_4 _ _ (hr4 _ (Option.some.inj hm).symm) dX2_sumAparts_28
  · replace hm := iF c2 hm
    refine r_iload_n S dX2_sumAparts_12 rfl 1 rfl ?_
    refine r_aload_n S dX2_sumAparts_13 rfl 0 rfl ?_
    refine r_get (T := TX2) (ci := 2) S (tlA inlX2) rfl 0 rfl 3 (Nat.le_of_ble_eq_true rfl) (tl u51) rfl dX2_sumAparts_14 ?_
    refine r_iload_n S dX2_sumAparts_17 rfl 2 rfl ?_
    obtain ⟨v3, h_v3, hm⟩ := bS hm
    refine r_iald S h_v3 1 0 rfl rfl dX2_sumAparts_18 ?_
    refine r_iadd S dX2_sumAparts_19 ?_
    obtain ⟨v4, h_v4, hm⟩ := bS hm
    refine r_topI h_v4 ?_
    refine r_istore_n S dX2_sumAparts_20 rfl (Nat.le_of_ble_eq_true rfl) (lv' := [(1, .int v4), (0, .ref aT), (2, .int x2_4)]) rfl ?_
    refine r_iincc S dX2_sumAparts_21 2 rfl (c0 := (1 : Int32)) rfl rfl (Nat.le_of_ble_eq_true rfl) (lv' := [(2, .int (x2_4 + (1 : Int32))), (1, .int v4), (0, .ref aT)]) rfl ?_
    refine r_goto 4 S dX2_sumAparts_24 (by decide) ?_
    refine r_lv [2, 1, 0] (lv' := [(0, .ref aT), (1, .int v4), (2, .int (x2_4 + (1 : Int32)))]) rfl ?_
    exact hk4 (v4, (x2_4 + (1 : Int32))) (Option.some.inj hm).symm
def wtX2_sumRoots : List Cond := Cond.code yX2_sumRoots cX2_sumRoots 3 (some .int) :: wsL_law
theorem ok_X2_sumRoots : CallOK yX2_sumRoots wtX2_sumRoots RX2 0 3 := ⟨⟨_, _, _, rfl⟩, rfl, ⟨by decide +kernel, by decide +kernel⟩, by decide +kernel⟩
set_option maxRecDepth 100000 in
set_option maxHeartbeats 4000000 in
theorem c_X2_sumRoots (l0 : Launch) (D0 : va_G) (cI cJ cZ cY : ClassId) (F : Nat) (aT aT_points aT_keys aT_aparts aT_roots aT_firsts aT_seconds aT_parts aT_firstSides aT_otherSides aT_joinsAbove aT_pointsAbove aT_pairs aT_links aT_nodes : Nat) (T_count : Int32) (T_roots : Nat → Int32) (res : Int32) (hm : mX2_sumRoots F T_count T_roots = some res) : Ci D0 [(cI, .int), (cJ, .long), (cZ, .boolean), (cY, .array .int)] l0 yX2_sumRoots wtX2_sumRoots ({ frames := 0, cells := 0, slots := 0, locals := 0 }) [.ref aT] (res) [(aT, .inr (2, [.ref aT_points, .int T_count, .ref aT_keys, .ref aT_aparts, .ref aT_roots, .ref aT_firsts, .ref aT_seconds, .ref aT_parts, .ref aT_firstSides, .ref aT_otherSides, .ref aT_joinsAbove, .ref aT_pointsAbove, .ref aT_pairs, .ref aT_links, .ref aT_nodes])), (aT_roots, .inl (cI, 24, .inl T_roots))] [(aT, .inr (2, [.ref aT_points, .int T_count, .ref aT_keys, .ref aT_aparts, .ref aT_roots, .ref aT_firsts, .ref aT_seconds, .ref aT_parts, .ref aT_firstSides, .ref aT_otherSides, .ref aT_joinsAbove, .ref aT_pointsAbove, .ref aT_pairs, .ref aT_links, .ref aT_nodes])), (aT_roots, .inl (cI, 24, .inl T_roots))] := by
  refine Ci.ofi cX2_sumRoots 3 (own := RX2) (by decide +kernel) rfl rfl (Nat.le_of_ble_eq_true rfl) ?_
  intro X S hR0
  have hR : ∀ (r9 : Int32) (pc : Nat) (lv : List (Nat × Value)), some r9 = some res → decode cX2_sumRoots pc = .ok (.ireturn, 1) → G X pc lv [.int (r9)] [(aT, .inr (2, [.ref aT_points, .int T_count, .ref aT_keys, .ref aT_aparts, .ref aT_roots, .ref aT_firsts, .ref aT_seconds, .ref aT_parts, .ref aT_firstSides, .ref aT_otherSides, .ref aT_joinsAbove, .ref aT_pointsAbove, .ref aT_pairs, .ref aT_links, .ref aT_nodes])), (aT_roots, .inl (cI, 24, .inl T_roots))] := fun r9 pc lv h9 hd => by cases h9; exact hR0 pc lv hd
  show G X 0 [(0, .ref aT)] [] [(aT, .inr (2, [.ref aT_points, .int T_count, .ref aT_keys, .ref aT_aparts, .ref aT_roots, .ref aT_firsts, .ref aT_seconds, .ref aT_parts, .ref aT_firstSides, .ref aT_otherSides, .ref aT_joinsAbove, .ref aT_pointsAbove, .ref aT_pairs, .ref aT_links, .ref aT_nodes])), (aT_roots, .inl (cI, 24, .inl T_roots))]
  unfold mX2_sumRoots at hm
  refine r_iconst (v := (0 : Int32)) S dX2_sumRoots_0 rfl ?_
  refine r_istore_n S dX2_sumRoots_1 rfl (Nat.le_of_ble_eq_true rfl) (lv' := [(1, .int (0 : Int32)), (0, .ref aT)]) rfl ?_
  refine r_iconst (v := (0 : Int32)) S dX2_sumRoots_2 rfl ?_
  refine r_istore_n S dX2_sumRoots_3 rfl (Nat.le_of_ble_eq_true rfl) (lv' := [(2, .int (0 : Int32)), (1, .int (0 : Int32)), (0, .ref aT)]) rfl ?_
  have hR4 : ∀ (r9 : Int32) (pc : Nat) (lv : List (Nat × Value)), r9 = res → decode cX2_sumRoots pc = .ok (.ireturn, 1) → G X pc lv [.int (r9)] [(aT, .inr (2, [.ref aT_points, .int T_count, .ref aT_keys, .ref aT_aparts, .ref aT_roots, .ref aT_firsts, .ref aT_seconds, .ref aT_parts, .ref aT_firstSides, .ref aT_otherSides, .ref aT_joinsAbove, .ref aT_pointsAbove, .ref aT_pairs, .ref aT_links, .ref aT_nodes])), (aT_roots, .inl (cI, 24, .inl T_roots))] := fun r9 pc lv h9 hd => hR r9 pc lv (congrArg some h9) hd
  refine r_lv [2, 1, 0] (lv' := [(0, .ref aT), (1, .int (0 : Int32)), (2, .int (0 : Int32))]) rfl ?_
  refine loopG (r0 := res) (Gd := fun s9 => G X 4 [(0, .ref aT), (1, .int s9.1), (2, .int s9.2)] [] [(aT, .inr (2, [.ref aT_points, .int T_count, .ref aT_keys, .ref aT_aparts, .ref aT_roots, .ref aT_firsts, .ref aT_seconds, .ref aT_parts, .ref aT_firstSides, .ref aT_otherSides, .ref aT_joinsAbove, .ref aT_pointsAbove, .ref aT_pairs, .ref aT_links, .ref aT_nodes])), (aT_roots, .inl (cI, 24, .inl T_roots))]) ?_ _ _ hm
  rintro ⟨x1_4, x2_4⟩ b4 hm hk4 hr4
  replace hm : mX2_sumRoots_b4 F T_count T_roots x1_4 x2_4 = some b4 := hm
  unfold mX2_sumRoots_b4 at hm
  show G X 4 [(0, .ref aT), (1, .int x1_4), (2, .int x2_4)] [] [(aT, .inr (2, [.ref aT_points, .int T_count, .ref aT_keys, .ref aT_aparts, .ref aT_roots, .ref aT_firsts, .ref aT_seconds, .ref aT_parts, .ref aT_firstSides, .ref aT_otherSides, .ref aT_joinsAbove, .ref aT_pointsAbove, .ref aT_pairs, .ref aT_links, .ref aT_nodes])), (aT_roots, .inl (cI, 24, .inl T_roots))]
  refine r_iload_n S dX2_sumRoots_4 rfl 2 rfl ?_
  refine r_aload_n S dX2_sumRoots_5 rfl 0 rfl ?_
  refine r_get (T := TX2) (ci := 2) S (tlA inlX2) rfl 0 rfl 1 (Nat.le_of_ble_eq_true rfl) (tl u48) rfl dX2_sumRoots_6 ?_
  refine r_icmp_ge 27 S dX2_sumRoots_9 (by decide) (fun c2 => ?_) (fun c2 => ?_)
  · replace hm := iT c2 hm
    refine r_iload_n S dX2_sumRoots_27 rfl 1 rfl ?_
    exact hR4 x1_4 _ _ (hr4 _ (Option.some.inj hm).symm) dX2_sumRoots_28
  · replace hm := iF c2 hm
    refine r_iload_n S dX2_sumRoots_12 rfl 1 rfl ?_
    refine r_aload_n S dX2_sumRoots_13 rfl 0 rfl ?_
    refine r_get (T := TX2) (ci := 2) S (tlA inlX2) rfl 0 rfl 4 (Nat.le_of_ble_eq_true rfl) (tl u52) rfl dX2_sumRoots_14 ?_
    refine r_iload_n S dX2_sumRoots_17 rfl 2 rfl ?_
    obtain ⟨v3, h_v3, hm⟩ := bS hm
    refine r_iald S h_v3 1 0 rfl rfl dX2_sumRoots_18 ?_
    refine r_iadd S dX2_sumRoots_19 ?_
    obtain ⟨v4, h_v4, hm⟩ := bS hm
    refine r_topI h_v4 ?_
    refine r_istore_n S dX2_sumRoots_20 rfl (Nat.le_of_ble_eq_true rfl) (lv' := [(1, .int v4), (0, .ref aT), (2, .int x2_4)]) rfl ?_
    refine r_iincc S dX2_sumRoots_21 2 rfl (c0 := (1 : Int32)) rfl rfl (Nat.le_of_ble_eq_true rfl) (lv' := [(2, .int (x2_4 + (1 : Int32))), (1, .int v4), (0, .ref aT)]) rfl ?_
    refine r_goto 4 S dX2_sumRoots_24 (by decide) ?_
    refine r_lv [2, 1, 0] (lv' := [(0, .ref aT), (1, .int v4), (2, .int (x2_4 + (1 : Int32)))]) rfl ?_
    exact hk4 (v4, (x2_4 + (1 : Int32))) (Option.some.inj hm).symm
def wtX2_hasPair : List Cond := Cond.code yX2_hasPair cX2_hasPair 4 (some .boolean) :: wsL_law
theorem ok_X2_hasPair : CallOK yX2_hasPair wtX2_hasPair RX2 1 4 := ⟨⟨_, _, _, rfl⟩, rfl, ⟨by decide +kernel, by decide +kernel⟩, by decide +kernel⟩
set_option maxRecDepth 100000 in
set_option maxHeartbeats 4000000 in
theorem c_X2_hasPair (l0 : Launch) (D0 : va_G) (cI cJ cZ cY : ClassId) (F : Nat) (aT aT_points aT_keys aT_aparts aT_roots aT_firsts aT_seconds aT_parts aT_firstSides aT_otherSides aT_joinsAbove aT_pointsAbove aT_pairs aT_links aT_nodes : Nat) (T_count : Int32) (T_pairs : Nat → Int64) (x1 : Int64) (res : Int32) (hm : mX2_hasPair F x1 T_count T_pairs = some res) : Cz D0 [(cI, .int), (cJ, .long), (cZ, .boolean), (cY, .array .int)] l0 yX2_hasPair wtX2_hasPair ({ frames := 0, cells := 0, slots := 0, locals := 0 }) [.ref aT, .long x1] (res) [(aT, .inr (2, [.ref aT_points, .int T_count, .ref aT_keys, .ref aT_aparts, .ref aT_roots, .ref aT_firsts, .ref aT_seconds, .ref aT_parts, .ref aT_firstSides, .ref aT_otherSides, .ref aT_joinsAbove, .ref aT_pointsAbove, .ref aT_pairs, .ref aT_links, .ref aT_nodes])), (aT_pairs, .inl (cJ, 24, .inr (.inl T_pairs)))] [(aT, .inr (2, [.ref aT_points, .int T_count, .ref aT_keys, .ref aT_aparts, .ref aT_roots, .ref aT_firsts, .ref aT_seconds, .ref aT_parts, .ref aT_firstSides, .ref aT_otherSides, .ref aT_joinsAbove, .ref aT_pointsAbove, .ref aT_pairs, .ref aT_links, .ref aT_nodes])), (aT_pairs, .inl (cJ, 24, .inr (.inl T_pairs)))] := by
  refine Cz.ofz cX2_hasPair 4 (own := RX2) (by decide +kernel) rfl rfl (Nat.le_of_ble_eq_true rfl) ?_
  intro X S hR0
  have hR : ∀ (r9 : Int32) (pc : Nat) (lv : List (Nat × Value)), some r9 = some res → decode cX2_hasPair pc = .ok (.ireturn, 1) → (r9 = 0 ∨ r9 = 1) → G X pc lv [.int (r9)] [(aT, .inr (2, [.ref aT_points, .int T_count, .ref aT_keys, .ref aT_aparts, .ref aT_roots, .ref aT_firsts, .ref aT_seconds, .ref aT_parts, .ref aT_firstSides, .ref aT_otherSides, .ref aT_joinsAbove, .ref aT_pointsAbove, .ref aT_pairs, .ref aT_links, .ref aT_nodes])), (aT_pairs, .inl (cJ, 24, .inr (.inl T_pairs)))] := fun r9 pc lv h9 hd hz9 => by cases h9; exact hR0 pc lv hd hz9
  show G X 0 [(0, .ref aT), (1, .long x1)] [] [(aT, .inr (2, [.ref aT_points, .int T_count, .ref aT_keys, .ref aT_aparts, .ref aT_roots, .ref aT_firsts, .ref aT_seconds, .ref aT_parts, .ref aT_firstSides, .ref aT_otherSides, .ref aT_joinsAbove, .ref aT_pointsAbove, .ref aT_pairs, .ref aT_links, .ref aT_nodes])), (aT_pairs, .inl (cJ, 24, .inr (.inl T_pairs)))]
  unfold mX2_hasPair at hm
  refine r_iconst (v := (0 : Int32)) S dX2_hasPair_0 rfl ?_
  refine r_istore_n S dX2_hasPair_1 rfl (Nat.le_of_ble_eq_true rfl) (lv' := [(3, .int (0 : Int32)), (0, .ref aT), (1, .long x1)]) rfl ?_
  have hR2 : ∀ (r9 : Int32) (pc : Nat) (lv : List (Nat × Value)), r9 = res → decode cX2_hasPair pc = .ok (.ireturn, 1) → (r9 = 0 ∨ r9 = 1) → G X pc lv [.int (r9)] [(aT, .inr (2, [.ref aT_points, .int T_count, .ref aT_keys, .ref aT_aparts, .ref aT_roots, .ref aT_firsts, .ref aT_seconds, .ref aT_parts, .ref aT_firstSides, .ref aT_otherSides, .ref aT_joinsAbove, .ref aT_pointsAbove, .ref aT_pairs, .ref aT_links, .ref aT_nodes])), (aT_pairs, .inl (cJ, 24, .inr (.inl T_pairs)))] := fun r9 pc lv h9 hd hz => hR r9 pc lv (congrArg some h9) hd hz
  refine r_lv [1, 2, 0] (lv' := [(0, .ref aT), (1, .long x1), (3, .int (0 : Int32))]) rfl ?_
  refine loopG (r0 := res) (Gd := fun s9 => G X 2 [(0, .ref aT), (1, .long x1), (3, .int s9)] [] [(aT, .inr (2, [.ref aT_points, .int T_count, .ref aT_keys, .ref aT_aparts, .ref aT_roots, .ref aT_firsts, .ref aT_seconds, .ref aT_parts, .ref aT_firstSides, .ref aT_otherSides, .ref aT_joinsAbove, .ref aT_pointsAbove, .ref aT_pairs, .ref aT_links, .ref aT_nodes])), (aT_pairs, .inl (cJ, 24, .inr (.inl T_pairs)))]) ?_ _ _ hm
  intro x3_2 b2 hm hk2 hr2
  replace hm : mX2_hasPair_b2 F x1 T_count T_pairs x3_2 = some b2 := hm
  unfold mX2_hasPair_b2 at hm
  show G X 2 [(0, .ref aT), (1, .long x1), (3, .int x3_2)] [] [(aT, .inr (2, [.ref aT_points, .int T_count, .ref aT_keys, .ref aT_aparts, .ref aT_roots, .ref aT_firsts, .ref aT_seconds, .ref aT_parts, .ref aT_firstSides, .ref aT_otherSides, .ref aT_joinsAbove, .ref aT_pointsAbove, .ref aT_pairs, .ref aT_links, .ref aT_nodes])), (aT_pairs, .inl (cJ, 24, .inr (.inl T_pairs)))]
  refine r_iload_n S dX2_hasPair_2 rfl 2 rfl ?_
  refine r_aload_n S dX2_hasPair_3 rfl 0 rfl ?_
  refine r_get (T := TX2) (ci := 2) S (tlA inlX2) rfl 0 rfl 1 (Nat.le_of_ble_eq_true rfl) (tl u48) rfl dX2_hasPair_4 ?_
  refine r_icmp_ge 29 S dX2_hasPair_7 (by decide) (fun c2 => ?_) (fun c2 => ?_)
  · replace hm := iT c2 hm
    refine r_iconst (v := (0 : Int32)) S dX2_hasPair_29 rfl ?_
    exact hR2 (0 : Int32) _ _ (hr2 _ (Option.some.inj hm).symm) dX2_hasPair_30 (Or.inl rfl)
  · replace hm := iF c2 hm
    refine r_aload_n S dX2_hasPair_10 rfl 0 rfl ?_
    refine r_get (T := TX2) (ci := 2) S (tlA inlX2) rfl 0 rfl 12 (Nat.le_of_ble_eq_true rfl) (tl u60) rfl dX2_hasPair_11 ?_
    refine r_iload_n S dX2_hasPair_14 rfl 2 rfl ?_
    obtain ⟨v3, h_v3, hm⟩ := bS hm
    refine r_lald S h_v3 1 1 rfl rfl dX2_hasPair_15 ?_
    refine r_lload_n S dX2_hasPair_16 rfl 1 rfl ?_
    refine r_lcmp S dX2_hasPair_17 ?_
    refine r_if_ne 23 S dX2_hasPair_18 (by decide) (fun c4 => ?_) (fun c4 => ?_)
    · replace hm := iF c4 hm
      refine r_iincc S dX2_hasPair_23 2 rfl (c0 := (1 : Int32)) rfl rfl (Nat.le_of_ble_eq_true rfl) (lv' := [(3, .int (x3_2 + (1 : Int32))), (0, .ref aT), (1, .long x1)]) rfl ?_
      refine r_goto 2 S dX2_hasPair_26 (by decide) ?_
      refine r_lv [1, 2, 0] (lv' := [(0, .ref aT), (1, .long x1), (3, .int (x3_2 + (1 : Int32)))]) rfl ?_
      exact hk2 (x3_2 + (1 : Int32)) (Option.some.inj hm).symm
    · replace hm := iT c4 hm
      refine r_iconst (v := (1 : Int32)) S dX2_hasPair_21 rfl ?_
      exact hR2 (1 : Int32) _ _ (hr2 _ (Option.some.inj hm).symm) dX2_hasPair_22 (Or.inr rfl)
def wtX2_countUnlike : List Cond := Cond.code yX2_countUnlike cX2_countUnlike 4 (some .int) :: wsL_law
theorem ok_X2_countUnlike : CallOK yX2_countUnlike wtX2_countUnlike RX2 1 4 := ⟨⟨_, _, _, rfl⟩, rfl, ⟨by decide +kernel, by decide +kernel⟩, by decide +kernel⟩
set_option maxRecDepth 100000 in
set_option maxHeartbeats 4000000 in
theorem c_X2_countUnlike (l0 : Launch) (D0 : va_G) (cI cJ cZ cY : ClassId) (F : Nat) (aT aq1 aT_points aT_keys aT_aparts aT_roots aT_firsts aT_seconds aT_parts aT_firstSides aT_otherSides aT_joinsAbove aT_pointsAbove aT_pairs aT_links aT_nodes aq1_points aq1_keys aq1_aparts aq1_roots aq1_firsts aq1_seconds aq1_parts aq1_firstSides aq1_otherSides aq1_joinsAbove aq1_pointsAbove aq1_pairs aq1_links aq1_nodes : Nat) (T_count : Int32) (q1_count : Int32) (T_pairs : Nat → Int64) (q1_pairs : Nat → Int64) (res : Int32) (hm : mX2_countUnlike F T_count q1_count T_pairs q1_pairs = some res) : Ci D0 [(cI, .int), (cJ, .long), (cZ, .boolean), (cY, .array .int)] l0 yX2_countUnlike wtX2_countUnlike ({ frames := 1, cells := 0, slots := 0, locals := 23 }) [.ref aT, .ref aq1] (res) [(aT, .inr (2, [.ref aT_points, .int T_count, .ref aT_keys, .ref aT_aparts, .ref aT_roots, .ref aT_firsts, .ref aT_seconds, .ref aT_parts, .ref aT_firstSides, .ref aT_otherSides, .ref aT_joinsAbove, .ref aT_pointsAbove, .ref aT_pairs, .ref aT_links, .ref aT_nodes])), (aq1, .inr (2, [.ref aq1_points, .int q1_count, .ref aq1_keys, .ref aq1_aparts, .ref aq1_roots, .ref aq1_firsts, .ref aq1_seconds, .ref aq1_parts, .ref aq1_firstSides, .ref aq1_otherSides, .ref aq1_joinsAbove, .ref aq1_pointsAbove, .ref aq1_pairs, .ref aq1_links, .ref aq1_nodes])), (aT_pairs, .inl (cJ, 24, .inr (.inl T_pairs))), (aq1_pairs, .inl (cJ, 24, .inr (.inl q1_pairs)))] [(aT, .inr (2, [.ref aT_points, .int T_count, .ref aT_keys, .ref aT_aparts, .ref aT_roots, .ref aT_firsts, .ref aT_seconds, .ref aT_parts, .ref aT_firstSides, .ref aT_otherSides, .ref aT_joinsAbove, .ref aT_pointsAbove, .ref aT_pairs, .ref aT_links, .ref aT_nodes])), (aq1, .inr (2, [.ref aq1_points, .int q1_count, .ref aq1_keys, .ref aq1_aparts, .ref aq1_roots, .ref aq1_firsts, .ref aq1_seconds, .ref aq1_parts, .ref aq1_firstSides, .ref aq1_otherSides, .ref aq1_joinsAbove, .ref aq1_pointsAbove, .ref aq1_pairs, .ref aq1_links, .ref aq1_nodes])), (aT_pairs, .inl (cJ, 24, .inr (.inl T_pairs))), (aq1_pairs, .inl (cJ, 24, .inr (.inl q1_pairs)))] := by
  refine Ci.ofi cX2_countUnlike 4 (own := RX2) (by decide +kernel) rfl rfl (Nat.le_of_ble_eq_true rfl) ?_
  intro X S hR0
  have hR : ∀ (r9 : Int32) (pc : Nat) (lv : List (Nat × Value)), some r9 = some res → decode cX2_countUnlike pc = .ok (.ireturn, 1) → G X pc lv [.int (r9)] [(aT, .inr (2, [.ref aT_points, .int T_count, .ref aT_keys, .ref aT_aparts, .ref aT_roots, .ref aT_firsts, .ref aT_seconds, .ref aT_parts, .ref aT_firstSides, .ref aT_otherSides, .ref aT_joinsAbove, .ref aT_pointsAbove, .ref aT_pairs, .ref aT_links, .ref aT_nodes])), (aq1, .inr (2, [.ref aq1_points, .int q1_count, .ref aq1_keys, .ref aq1_aparts, .ref aq1_roots, .ref aq1_firsts, .ref aq1_seconds, .ref aq1_parts, .ref aq1_firstSides, .ref aq1_otherSides, .ref aq1_joinsAbove, .ref aq1_pointsAbove, .ref aq1_pairs, .ref aq1_links, .ref aq1_nodes])), (aT_pairs, .inl (cJ, 24, .inr (.inl T_pairs))), (aq1_pairs, .inl (cJ, 24, .inr (.inl q1_pairs)))] := fun r9 pc lv h9 hd => by cases h9; exact hR0 pc lv hd
  show G X 0 [(0, .ref aT), (1, .ref aq1)] [] [(aT, .inr (2, [.ref aT_points, .int T_count, .ref aT_keys, .ref aT_aparts, .ref aT_roots, .ref aT_firsts, .ref aT_seconds, .ref aT_parts, .ref aT_firstSides, .ref aT_otherSides, .ref aT_joinsAbove, .ref aT_pointsAbove, .ref aT_pairs, .ref aT_links, .ref aT_nodes])), (aq1, .inr (2, [.ref aq1_points, .int q1_count, .ref aq1_keys, .ref aq1_aparts, .ref aq1_roots, .ref aq1_firsts, .ref aq1_seconds, .ref aq1_parts, .ref aq1_firstSides, .ref aq1_otherSides, .ref aq1_joinsAbove, .ref aq1_pointsAbove, .ref aq1_pairs, .ref aq1_links, .ref aq1_nodes])), (aT_pairs, .inl (cJ, 24, .inr (.inl T_pairs))), (aq1_pairs, .inl (cJ, 24, .inr (.inl q1_pairs)))]
  unfold mX2_countUnlike at hm
  refine r_iconst (v := (0 : Int32)) S dX2_countUnlike_0 rfl ?_
  refine r_istore_n S dX2_countUnlike_1 rfl (Nat.le_of_ble_eq_true rfl) (lv' := [(2, .int (0 : Int32)), (0, .ref aT), (1, .ref aq1)]) rfl ?_
  refine r_iconst (v := (0 : Int32)) S dX2_countUnlike_2 rfl ?_
  refine r_istore_n S dX2_countUnlike_3 rfl (Nat.le_of_ble_eq_true rfl) (lv' := [(3, .int (0 : Int32)), (2, .int (0 : Int32)), (0, .ref aT), (1, .ref aq1)]) rfl ?_
  have hR4 : ∀ (r9 : Int32) (pc : Nat) (lv : List (Nat × Value)), r9 = res → decode cX2_countUnlike pc = .ok (.ireturn, 1) → G X pc lv [.int (r9)] [(aT, .inr (2, [.ref aT_points, .int T_count, .ref aT_keys, .ref aT_aparts, .ref aT_roots, .ref aT_firsts, .ref aT_seconds, .ref aT_parts, .ref aT_firstSides, .ref aT_otherSides, .ref aT_joinsAbove, .ref aT_pointsAbove, .ref aT_pairs, .ref aT_links, .ref aT_nodes])), (aq1, .inr (2, [.ref aq1_points, .int q1_count, .ref aq1_keys, .ref aq1_aparts, .ref aq1_roots, .ref aq1_firsts, .ref aq1_seconds, .ref aq1_parts, .ref aq1_firstSides, .ref aq1_otherSides, .ref aq1_joinsAbove, .ref aq1_pointsAbove, .ref aq1_pairs, .ref aq1_links, .ref aq1_nodes])), (aT_pairs, .inl (cJ, 24, .inr (.inl T_pairs))), (aq1_pairs, .inl (cJ, 24, .inr (.inl q1_pairs)))] := fun r9 pc lv h9 hd => hR r9 pc lv (congrArg some h9) hd
  refine r_lv [2, 3, 1, 0] (lv' := [(0, .ref aT), (1, .ref aq1), (2, .int (0 : Int32)), (3, .int (0 : Int32))]) rfl ?_
  refine loopG (r0 := res) (Gd := fun s9 => G X 4 [(0, .ref aT), (1, .ref aq1), (2, .int s9.1), (3, .int s9.2)] [] [(aT, .inr (2, [.ref aT_points, .int T_count, .ref aT_keys, .ref aT_aparts, .ref aT_roots, .ref aT_firsts, .ref aT_seconds, .ref aT_parts, .ref aT_firstSides, .ref aT_otherSides, .ref aT_joinsAbove, .ref aT_pointsAbove, .ref aT_pairs, .ref aT_links, .ref aT_nodes])), (aq1, .inr (2, [.ref aq1_points, .int q1_count, .ref aq1_keys, .ref aq1_aparts, .ref aq1_roots, .ref aq1_firsts, .ref aq1_seconds, .ref aq1_parts, .ref aq1_firstSides, .ref aq1_otherSides, .ref aq1_joinsAbove, .ref aq1_pointsAbove, .ref aq1_pairs, .ref aq1_links, .ref aq1_nodes])), (aT_pairs, .inl (cJ, 24, .inr (.inl T_pairs))), (aq1_pairs, .inl (cJ, 24, .inr (.inl q1_pairs)))]) ?_ _ _ hm
  rintro ⟨x2_4, x3_4⟩ b4 hm hk4 hr4
  replace hm : mX2_countUnlike_b4 F T_count q1_count T_pairs q1_pairs x2_4 x3_4 = some b4 := hm
  unfold mX2_countUnlike_b4 at hm
  show G X 4 [(0, .ref aT), (1, .ref aq1), (2, .int x2_4), (3, .int x3_4)] [] [(aT, .inr (2, [.ref aT_points, .int T_count, .ref aT_keys, .ref aT_aparts, .ref aT_roots, .ref aT_firsts, .ref aT_seconds, .ref aT_parts, .ref aT_firstSides, .ref aT_otherSides, .ref aT_joinsAbove, .ref aT_pointsAbove, .ref aT_pairs, .ref aT_links, .ref aT_nodes])), (aq1, .inr (2, [.ref aq1_points, .int q1_count, .ref aq1_keys, .ref aq1_aparts, .ref aq1_roots, .ref aq1_firsts, .ref aq1_seconds, .ref aq1_parts, .ref aq1_firstSides, .ref aq1_otherSides, .ref aq1_joinsAbove, .ref aq1_pointsAbove, .ref aq1_pairs, .ref aq1_links, .ref aq1_nodes])), (aT_pairs, .inl (cJ, 24, .inr (.inl T_pairs))), (aq1_pairs, .inl (cJ, 24, .inr (.inl q1_pairs)))]
  refine r_iload_n S dX2_countUnlike_4 rfl 3 rfl ?_
  refine r_aload_n S dX2_countUnlike_5 rfl 0 rfl ?_
  refine r_get (T := TX2) (ci := 2) S (tlA inlX2) rfl 0 rfl 1 (Nat.le_of_ble_eq_true rfl) (tl u48) rfl dX2_countUnlike_6 ?_
  refine r_icmp_ge 34 S dX2_countUnlike_9 (by decide) (fun c2 => ?_) (fun c2 => ?_)
  · replace hm := iT c2 hm
    refine r_iload_n S dX2_countUnlike_34 rfl 2 rfl ?_
    exact hR4 x2_4 _ _ (hr4 _ (Option.some.inj hm).symm) dX2_countUnlike_35
  · replace hm := iF c2 hm
    refine r_aload_n S dX2_countUnlike_12 rfl 1 rfl ?_
    refine r_aload_n S dX2_countUnlike_13 rfl 0 rfl ?_
    refine r_get (T := TX2) (ci := 2) S (tlA inlX2) rfl 0 rfl 12 (Nat.le_of_ble_eq_true rfl) (tl u60) rfl dX2_countUnlike_14 ?_
    refine r_iload_n S dX2_countUnlike_17 rfl 3 rfl ?_
    obtain ⟨v3, h_v3, hm⟩ := bS hm
    refine r_lald S h_v3 2 1 rfl rfl dX2_countUnlike_18 ?_
    obtain ⟨r4, h_r4, hm⟩ := bS hm
    refine r_callzV S (c_X2_hasPair l0 D0 cI cJ cZ cY F aq1 aq1_points aq1_keys aq1_aparts aq1_roots aq1_firsts aq1_seconds aq1_parts aq1_firstSides aq1_otherSides aq1_joinsAbove aq1_pointsAbove aq1_pairs aq1_links aq1_nodes q1_count q1_pairs v3 _ h_r4) (gV u233 u234 u235 u11 u236) ok_X2_hasPair ⟨rfl, rfl⟩ ⟨Nat.le_of_ble_eq_true rfl, Nat.le_of_ble_eq_true rfl⟩ [1, 3] [0, 2] rfl (wr := [(aT, .inr (2, [.ref aT_points, .int T_count, .ref aT_keys, .ref aT_aparts, .ref aT_roots, .ref aT_firsts, .ref aT_seconds, .ref aT_parts, .ref aT_firstSides, .ref aT_otherSides, .ref aT_joinsAbove, .ref aT_pointsAbove, .ref aT_pairs, .ref aT_links, .ref aT_nodes])), (aT_pairs, .inl (cJ, 24, .inr (.inl T_pairs)))]) rfl rfl rfl (by decide) (ci := 2) (T := TX2) 0 rfl rfl (ws' := [(aT, .inr (2, [.ref aT_points, .int T_count, .ref aT_keys, .ref aT_aparts, .ref aT_roots, .ref aT_firsts, .ref aT_seconds, .ref aT_parts, .ref aT_firstSides, .ref aT_otherSides, .ref aT_joinsAbove, .ref aT_pointsAbove, .ref aT_pairs, .ref aT_links, .ref aT_nodes])), (aT_pairs, .inl (cJ, 24, .inr (.inl T_pairs))), (aq1, .inr (2, [.ref aq1_points, .int q1_count, .ref aq1_keys, .ref aq1_aparts, .ref aq1_roots, .ref aq1_firsts, .ref aq1_seconds, .ref aq1_parts, .ref aq1_firstSides, .ref aq1_otherSides, .ref aq1_joinsAbove, .ref aq1_pointsAbove, .ref aq1_pairs, .ref aq1_links, .ref aq1_nodes])), (aq1_pairs, .inl (cJ, 24, .inr (.inl q1_pairs)))]) rfl (As := [.long v3]) (rest := []) rfl rfl (Nat.le_of_ble_eq_true rfl) dX2_countUnlike_19 (fun hz_r4 => ?_)
    refine r_if_ne 28 S dX2_countUnlike_22 (by decide) (fun c5 => ?_) (fun c5 => ?_)
    · replace hm := iF c5 hm
      refine r_iincc S dX2_countUnlike_28 3 rfl (c0 := (1 : Int32)) rfl rfl (Nat.le_of_ble_eq_true rfl) (lv' := [(3, .int (x3_4 + (1 : Int32))), (0, .ref aT), (1, .ref aq1), (2, .int x2_4)]) rfl ?_
      refine r_goto 4 S dX2_countUnlike_31 (by decide) ?_
      refine r_perm [0, 2, 1, 3] (ws' := [(aT, .inr (2, [.ref aT_points, .int T_count, .ref aT_keys, .ref aT_aparts, .ref aT_roots, .ref aT_firsts, .ref aT_seconds, .ref aT_parts, .ref aT_firstSides, .ref aT_otherSides, .ref aT_joinsAbove, .ref aT_pointsAbove, .ref aT_pairs, .ref aT_links, .ref aT_nodes])), (aq1, .inr (2, [.ref aq1_points, .int q1_count, .ref aq1_keys, .ref aq1_aparts, .ref aq1_roots, .ref aq1_firsts, .ref aq1_seconds, .ref aq1_parts, .ref aq1_firstSides, .ref aq1_otherSides, .ref aq1_joinsAbove, .ref aq1_pointsAbove, .ref aq1_pairs, .ref aq1_links, .ref aq1_nodes])), (aT_pairs, .inl (cJ, 24, .inr (.inl T_pairs))), (aq1_pairs, .inl (cJ, 24, .inr (.inl q1_pairs)))]) rfl rfl ?_
      refine r_lv [1, 2, 3, 0] (lv' := [(0, .ref aT), (1, .ref aq1), (2, .int x2_4), (3, .int (x3_4 + (1 : Int32)))]) rfl ?_
      exact hk4 (x2_4, (x3_4 + (1 : Int32))) (Option.some.inj hm).symm
    · replace hm := iT c5 hm
      obtain ⟨v6, h_v6, hm⟩ := bS hm
      refine r_iincc S dX2_countUnlike_25 2 rfl (c0 := (1 : Int32)) rfl (Option.some.inj h_v6) (Nat.le_of_ble_eq_true rfl) (lv' := [(2, .int v6), (0, .ref aT), (1, .ref aq1), (3, .int x3_4)]) rfl ?_
      refine r_iincc S dX2_countUnlike_28 3 rfl (c0 := (1 : Int32)) rfl rfl (Nat.le_of_ble_eq_true rfl) (lv' := [(3, .int (x3_4 + (1 : Int32))), (2, .int v6), (0, .ref aT), (1, .ref aq1)]) rfl ?_
      refine r_goto 4 S dX2_countUnlike_31 (by decide) ?_
      refine r_perm [0, 2, 1, 3] (ws' := [(aT, .inr (2, [.ref aT_points, .int T_count, .ref aT_keys, .ref aT_aparts, .ref aT_roots, .ref aT_firsts, .ref aT_seconds, .ref aT_parts, .ref aT_firstSides, .ref aT_otherSides, .ref aT_joinsAbove, .ref aT_pointsAbove, .ref aT_pairs, .ref aT_links, .ref aT_nodes])), (aq1, .inr (2, [.ref aq1_points, .int q1_count, .ref aq1_keys, .ref aq1_aparts, .ref aq1_roots, .ref aq1_firsts, .ref aq1_seconds, .ref aq1_parts, .ref aq1_firstSides, .ref aq1_otherSides, .ref aq1_joinsAbove, .ref aq1_pointsAbove, .ref aq1_pairs, .ref aq1_links, .ref aq1_nodes])), (aT_pairs, .inl (cJ, 24, .inr (.inl T_pairs))), (aq1_pairs, .inl (cJ, 24, .inr (.inl q1_pairs)))]) rfl rfl ?_
      refine r_lv [2, 3, 1, 0] (lv' := [(0, .ref aT), (1, .ref aq1), (2, .int v6), (3, .int (x3_4 + (1 : Int32)))]) rfl ?_
      exact hk4 (v6, (x3_4 + (1 : Int32))) (Option.some.inj hm).symm
def wtX4_find : List Cond := Cond.code yX4_find cX4_find 4 (some .int) :: wsL_law
theorem ok_X4_find : CallOK yX4_find wtX4_find RX4 2 4 := ⟨⟨_, _, _, rfl⟩, rfl, ⟨by decide +kernel, by decide +kernel⟩, by decide +kernel⟩
set_option maxRecDepth 100000 in
set_option maxHeartbeats 4000000 in
theorem c_X4_find (l0 : Launch) (D0 : va_G) (cI cJ cZ cY : ClassId) (F : Nat) (aT aT_xs aT_ys aT_ws : Nat) (T_count : Int32) (T_xs : Nat → Int32) (T_ys : Nat → Int32) (x1 : Int32) (x2 : Int32) (res : Int32) (hm : mX4_find F x1 x2 T_count T_xs T_ys = some res) : Ci D0 [(cI, .int), (cJ, .long), (cZ, .boolean), (cY, .array .int)] l0 yX4_find wtX4_find ({ frames := 0, cells := 0, slots := 0, locals := 0 }) [.ref aT, .int x1, .int x2] (res) [(aT, .inr (4, [.int T_count, .ref aT_xs, .ref aT_ys, .ref aT_ws])), (aT_xs, .inl (cI, 24, .inl T_xs)), (aT_ys, .inl (cI, 24, .inl T_ys))] [(aT, .inr (4, [.int T_count, .ref aT_xs, .ref aT_ys, .ref aT_ws])), (aT_xs, .inl (cI, 24, .inl T_xs)), (aT_ys, .inl (cI, 24, .inl T_ys))] := by
  refine Ci.ofi cX4_find 4 (own := RX4) (by decide +kernel) rfl rfl (Nat.le_of_ble_eq_true rfl) ?_
  intro X S hR0
  have hR : ∀ (r9 : Int32) (pc : Nat) (lv : List (Nat × Value)), some r9 = some res → decode cX4_find pc = .ok (.ireturn, 1) → G X pc lv [.int (r9)] [(aT, .inr (4, [.int T_count, .ref aT_xs, .ref aT_ys, .ref aT_ws])), (aT_xs, .inl (cI, 24, .inl T_xs)), (aT_ys, .inl (cI, 24, .inl T_ys))] := fun r9 pc lv h9 hd => by cases h9; exact hR0 pc lv hd
  show G X 0 [(0, .ref aT), (1, .int x1), (2, .int x2)] [] [(aT, .inr (4, [.int T_count, .ref aT_xs, .ref aT_ys, .ref aT_ws])), (aT_xs, .inl (cI, 24, .inl T_xs)), (aT_ys, .inl (cI, 24, .inl T_ys))]
  unfold mX4_find at hm
  refine r_iconst (v := (0 : Int32)) S dX4_find_0 rfl ?_
  refine r_istore_n S dX4_find_1 rfl (Nat.le_of_ble_eq_true rfl) (lv' := [(3, .int (0 : Int32)), (0, .ref aT), (1, .int x1), (2, .int x2)]) rfl ?_
  have hR2 : ∀ (r9 : Int32) (pc : Nat) (lv : List (Nat × Value)), r9 = res → decode cX4_find pc = .ok (.ireturn, 1) → G X pc lv [.int (r9)] [(aT, .inr (4, [.int T_count, .ref aT_xs, .ref aT_ys, .ref aT_ws])), (aT_xs, .inl (cI, 24, .inl T_xs)), (aT_ys, .inl (cI, 24, .inl T_ys))] := fun r9 pc lv h9 hd => hR r9 pc lv (congrArg some h9) hd
  refine r_lv [1, 2, 3, 0] (lv' := [(0, .ref aT), (1, .int x1), (2, .int x2), (3, .int (0 : Int32))]) rfl ?_
  refine loopG (r0 := res) (Gd := fun s9 => G X 2 [(0, .ref aT), (1, .int x1), (2, .int x2), (3, .int s9)] [] [(aT, .inr (4, [.int T_count, .ref aT_xs, .ref aT_ys, .ref aT_ws])), (aT_xs, .inl (cI, 24, .inl T_xs)), (aT_ys, .inl (cI, 24, .inl T_ys))]) ?_ _ _ hm
  intro x3_2 b2 hm hk2 hr2
  replace hm : mX4_find_b2 F x1 x2 T_count T_xs T_ys x3_2 = some b2 := hm
  unfold mX4_find_b2 at hm
  show G X 2 [(0, .ref aT), (1, .int x1), (2, .int x2), (3, .int x3_2)] [] [(aT, .inr (4, [.int T_count, .ref aT_xs, .ref aT_ys, .ref aT_ws])), (aT_xs, .inl (cI, 24, .inl T_xs)), (aT_ys, .inl (cI, 24, .inl T_ys))]
  refine r_iload_n S dX4_find_2 rfl 3 rfl ?_
  refine r_aload_n S dX4_find_3 rfl 0 rfl ?_
  refine r_get (T := TX4) (ci := 4) S (tlA inlX4) rfl 0 rfl 0 (Nat.le_of_ble_eq_true rfl) (tl u67) rfl dX4_find_4 ?_
  refine r_icmp_ge 38 S dX4_find_7 (by decide) (fun c2 => ?_) (fun c2 => ?_)
  · replace hm := iT c2 hm
    refine r_iconst (v := (-1 : Int32)) S dX4_find_38 rfl ?_
    exact hR2 (-1 : Int32) _ _ (hr2 _ (Option.some.inj hm).symm) dX4_find_39
  · replace hm := iF c2 hm
    refine r_aload_n S dX4_find_10 rfl 0 rfl ?_
    refine r_get (T := TX4) (ci := 4) S (tlA inlX4) rfl 0 rfl 1 (Nat.le_of_ble_eq_true rfl) (tl u68) rfl dX4_find_11 ?_
    refine r_iload_n S dX4_find_14 rfl 3 rfl ?_
    obtain ⟨v3, h_v3, hm⟩ := bS hm
    refine r_iald S h_v3 1 0 rfl rfl dX4_find_15 ?_
    refine r_iload_n S dX4_find_16 rfl 1 rfl ?_
    refine r_icmp_ne 32 S dX4_find_17 (by decide) (fun c4 => ?_) (fun c4 => ?_)
    · replace hm := iF c4 hm
      refine r_iincc S dX4_find_32 3 rfl (c0 := (1 : Int32)) rfl rfl (Nat.le_of_ble_eq_true rfl) (lv' := [(3, .int (x3_2 + (1 : Int32))), (0, .ref aT), (1, .int x1), (2, .int x2)]) rfl ?_
      refine r_goto 2 S dX4_find_35 (by decide) ?_
      refine r_lv [1, 2, 3, 0] (lv' := [(0, .ref aT), (1, .int x1), (2, .int x2), (3, .int (x3_2 + (1 : Int32)))]) rfl ?_
      exact hk2 (x3_2 + (1 : Int32)) (Option.some.inj hm).symm
    · replace hm := iT c4 hm
      refine r_aload_n S dX4_find_20 rfl 0 rfl ?_
      refine r_get (T := TX4) (ci := 4) S (tlA inlX4) rfl 0 rfl 2 (Nat.le_of_ble_eq_true rfl) (tl u69) rfl dX4_find_21 ?_
      refine r_iload_n S dX4_find_24 rfl 3 rfl ?_
      obtain ⟨v5, h_v5, hm⟩ := bS hm
      refine r_iald S h_v5 2 0 rfl rfl dX4_find_25 ?_
      refine r_iload_n S dX4_find_26 rfl 2 rfl ?_
      refine r_icmp_ne 32 S dX4_find_27 (by decide) (fun c6 => ?_) (fun c6 => ?_)
      · replace hm := iF c6 hm
        refine r_iincc S dX4_find_32 3 rfl (c0 := (1 : Int32)) rfl rfl (Nat.le_of_ble_eq_true rfl) (lv' := [(3, .int (x3_2 + (1 : Int32))), (0, .ref aT), (1, .int x1), (2, .int x2)]) rfl ?_
        refine r_goto 2 S dX4_find_35 (by decide) ?_
        refine r_lv [1, 2, 3, 0] (lv' := [(0, .ref aT), (1, .int x1), (2, .int x2), (3, .int (x3_2 + (1 : Int32)))]) rfl ?_
        exact hk2 (x3_2 + (1 : Int32)) (Option.some.inj hm).symm
      · replace hm := iT c6 hm
        refine r_iload_n S dX4_find_30 rfl 3 rfl ?_
        exact hR2 x3_2 _ _ (hr2 _ (Option.some.inj hm).symm) dX4_find_31
def wtX4_canCome : List Cond := Cond.code yX4_canCome cX4_canCome 3 (some .boolean) :: wsL_law
theorem ok_X4_canCome : CallOK yX4_canCome wtX4_canCome RX4 2 3 := ⟨⟨_, _, _, rfl⟩, rfl, ⟨by decide +kernel, by decide +kernel⟩, by decide +kernel⟩
set_option maxRecDepth 100000 in
set_option maxHeartbeats 4000000 in
theorem c_X4_canCome (l0 : Launch) (D0 : va_G) (cI cJ cZ cY : ClassId) (F : Nat) (aT aT_xs aT_ys aT_ws : Nat) (T_count : Int32) (T_xs : Nat → Int32) (T_ys : Nat → Int32) (x1 : Int32) (x2 : Int32) (res : Int32) (hm : mX4_canCome F x1 x2 T_count T_xs T_ys = some res) : Cz D0 [(cI, .int), (cJ, .long), (cZ, .boolean), (cY, .array .int)] l0 yX4_canCome wtX4_canCome ({ frames := 1, cells := 0, slots := 0, locals := 23 }) [.ref aT, .int x1, .int x2] (res) [(aT, .inr (4, [.int T_count, .ref aT_xs, .ref aT_ys, .ref aT_ws])), (aT_xs, .inl (cI, 24, .inl T_xs)), (aT_ys, .inl (cI, 24, .inl T_ys))] [(aT, .inr (4, [.int T_count, .ref aT_xs, .ref aT_ys, .ref aT_ws])), (aT_xs, .inl (cI, 24, .inl T_xs)), (aT_ys, .inl (cI, 24, .inl T_ys))] := by
  refine Cz.ofz cX4_canCome 3 (own := RX4) (by decide +kernel) rfl rfl (Nat.le_of_ble_eq_true rfl) ?_
  intro X S hR0
  have hR : ∀ (r9 : Int32) (pc : Nat) (lv : List (Nat × Value)), some r9 = some res → decode cX4_canCome pc = .ok (.ireturn, 1) → (r9 = 0 ∨ r9 = 1) → G X pc lv [.int (r9)] [(aT, .inr (4, [.int T_count, .ref aT_xs, .ref aT_ys, .ref aT_ws])), (aT_xs, .inl (cI, 24, .inl T_xs)), (aT_ys, .inl (cI, 24, .inl T_ys))] := fun r9 pc lv h9 hd hz9 => by cases h9; exact hR0 pc lv hd hz9
  show G X 0 [(0, .ref aT), (1, .int x1), (2, .int x2)] [] [(aT, .inr (4, [.int T_count, .ref aT_xs, .ref aT_ys, .ref aT_ws])), (aT_xs, .inl (cI, 24, .inl T_xs)), (aT_ys, .inl (cI, 24, .inl T_ys))]
  unfold mX4_canCome at hm
  refine r_iload_n S dX4_canCome_0 rfl 1 rfl ?_
  refine r_if_lt 45 S dX4_canCome_1 (by decide) (fun c1 => ?_) (fun c1 => ?_)
  · replace hm := iT c1 hm
    refine r_iconst (v := (0 : Int32)) S dX4_canCome_45 rfl ?_
    exact hR (0 : Int32) _ _ hm dX4_canCome_46 (Or.inl rfl)
  · replace hm := iF c1 hm
    refine r_iload_n S dX4_canCome_4 rfl 1 rfl ?_
    refine r_sipush (v := (1024 : Int32)) S dX4_canCome_5 rfl ?_
    refine r_icmp_ge 45 S dX4_canCome_8 (by decide) (fun c2 => ?_) (fun c2 => ?_)
    · replace hm := iT c2 hm
      refine r_iconst (v := (0 : Int32)) S dX4_canCome_45 rfl ?_
      exact hR (0 : Int32) _ _ hm dX4_canCome_46 (Or.inl rfl)
    · replace hm := iF c2 hm
      refine r_iload_n S dX4_canCome_11 rfl 2 rfl ?_
      refine r_if_lt 45 S dX4_canCome_12 (by decide) (fun c3 => ?_) (fun c3 => ?_)
      · replace hm := iT c3 hm
        refine r_iconst (v := (0 : Int32)) S dX4_canCome_45 rfl ?_
        exact hR (0 : Int32) _ _ hm dX4_canCome_46 (Or.inl rfl)
      · replace hm := iF c3 hm
        refine r_iload_n S dX4_canCome_15 rfl 2 rfl ?_
        refine r_sipush (v := (1024 : Int32)) S dX4_canCome_16 rfl ?_
        refine r_icmp_ge 45 S dX4_canCome_19 (by decide) (fun c4 => ?_) (fun c4 => ?_)
        · replace hm := iT c4 hm
          refine r_iconst (v := (0 : Int32)) S dX4_canCome_45 rfl ?_
          exact hR (0 : Int32) _ _ hm dX4_canCome_46 (Or.inl rfl)
        · replace hm := iF c4 hm
          refine r_aload_n S dX4_canCome_22 rfl 0 rfl ?_
          refine r_get (T := TX4) (ci := 4) S (tlA inlX4) rfl 0 rfl 0 (Nat.le_of_ble_eq_true rfl) (tl u67) rfl dX4_canCome_23 ?_
          refine r_bipush (v := (24 : Int32)) S dX4_canCome_26 rfl ?_
          refine r_icmp_ge 45 S dX4_canCome_28 (by decide) (fun c5 => ?_) (fun c5 => ?_)
          · replace hm := iT c5 hm
            refine r_iconst (v := (0 : Int32)) S dX4_canCome_45 rfl ?_
            exact hR (0 : Int32) _ _ hm dX4_canCome_46 (Or.inl rfl)
          · replace hm := iF c5 hm
            refine r_aload_n S dX4_canCome_31 rfl 0 rfl ?_
            refine r_iload_n S dX4_canCome_32 rfl 1 rfl ?_
            refine r_iload_n S dX4_canCome_33 rfl 2 rfl ?_
            obtain ⟨r6, h_r6, hm⟩ := bS hm
            refine r_calliV S (c_X4_find l0 D0 cI cJ cZ cY F aT aT_xs aT_ys aT_ws T_count T_xs T_ys x1 x2 _ h_r6) (gV u141 u142 u143 u46 u144) ok_X4_find ⟨rfl, rfl⟩ ⟨Nat.le_of_ble_eq_true rfl, Nat.le_of_ble_eq_true rfl⟩ [0, 1, 2] [] rfl (wr := []) rfl rfl rfl (by decide) (ci := 4) (T := TX4) 0 rfl rfl (ws' := [(aT, .inr (4, [.int T_count, .ref aT_xs, .ref aT_ys, .ref aT_ws])), (aT_xs, .inl (cI, 24, .inl T_xs)), (aT_ys, .inl (cI, 24, .inl T_ys))]) rfl (As := [.int x1, .int x2]) (rest := []) rfl rfl (Nat.le_of_ble_eq_true rfl) dX4_canCome_34 ?_
            refine r_iconst (v := (-1 : Int32)) S dX4_canCome_37 rfl ?_
            refine r_icmp_ne 45 S dX4_canCome_38 (by decide) (fun c7 => ?_) (fun c7 => ?_)
            · replace hm := iF c7 hm
              refine r_iconst (v := (0 : Int32)) S dX4_canCome_45 rfl ?_
              exact hR (0 : Int32) _ _ hm dX4_canCome_46 (Or.inl rfl)
            · replace hm := iT c7 hm
              refine r_iconst (v := (1 : Int32)) S dX4_canCome_41 rfl ?_
              refine r_goto 46 S dX4_canCome_42 (by decide) ?_
              exact hR (1 : Int32) _ _ hm dX4_canCome_46 (Or.inr rfl)
def wtX4_move : List Cond := Cond.code yX4_move cX4_move 3 none :: wsL_law
theorem ok_X4_move : CallOK yX4_move wtX4_move RX4 2 3 := ⟨⟨_, _, _, rfl⟩, rfl, ⟨by decide +kernel, by decide +kernel⟩, by decide +kernel⟩
set_option maxRecDepth 100000 in
set_option maxHeartbeats 4000000 in
theorem c_X4_move (l0 : Launch) (D0 : va_G) (cI cJ cZ cY : ClassId) (F : Nat) (aT aT_xs aT_ys aT_ws : Nat) (T_count : Int32) (T_ws : Nat → Int32) (T_xs : Nat → Int32) (T_ys : Nat → Int32) (x1 : Int32) (x2 : Int32) (res : (Nat → Int32) × (Nat → Int32) × (Nat → Int32)) (hm : mX4_move F x1 x2 T_ws T_xs T_ys = some res) : Cv D0 [(cI, .int), (cJ, .long), (cZ, .boolean), (cY, .array .int)] l0 yX4_move wtX4_move ({ frames := 0, cells := 0, slots := 0, locals := 0 }) [.ref aT, .int x1, .int x2] [(aT, .inr (4, [.int T_count, .ref aT_xs, .ref aT_ys, .ref aT_ws])), (aT_ws, .inl (cI, 24, .inl T_ws)), (aT_xs, .inl (cI, 24, .inl T_xs)), (aT_ys, .inl (cI, 24, .inl T_ys))] [(aT, .inr (4, [.int T_count, .ref aT_xs, .ref aT_ys, .ref aT_ws])), (aT_ws, .inl (cI, 24, .inl (res.1))), (aT_xs, .inl (cI, 24, .inl (res.2.1))), (aT_ys, .inl (cI, 24, .inl (res.2.2)))] := by
  refine Cv.ofv cX4_move 3 (own := RX4) (by decide +kernel) rfl rfl (Nat.le_of_ble_eq_true rfl) ?_
  intro X S hR0
  have hR : ∀ (r9 : (Nat → Int32) × (Nat → Int32) × (Nat → Int32)) (pc : Nat) (lv : List (Nat × Value)), some r9 = some res → decode cX4_move pc = .ok (.return_, 1) → G X pc lv [] [(aT, .inr (4, [.int T_count, .ref aT_xs, .ref aT_ys, .ref aT_ws])), (aT_ws, .inl (cI, 24, .inl (r9.1))), (aT_xs, .inl (cI, 24, .inl (r9.2.1))), (aT_ys, .inl (cI, 24, .inl (r9.2.2)))] := fun r9 pc lv h9 hd => by cases h9; exact hR0 pc lv hd
  show G X 0 [(0, .ref aT), (1, .int x1), (2, .int x2)] [] [(aT, .inr (4, [.int T_count, .ref aT_xs, .ref aT_ys, .ref aT_ws])), (aT_ws, .inl (cI, 24, .inl T_ws)), (aT_xs, .inl (cI, 24, .inl T_xs)), (aT_ys, .inl (cI, 24, .inl T_ys))]
  unfold mX4_move at hm
  refine r_aload_n S dX4_move_0 rfl 0 rfl ?_
  refine r_get (T := TX4) (ci := 4) S (tlA inlX4) rfl 0 rfl 1 (Nat.le_of_ble_eq_true rfl) (tl u68) rfl dX4_move_1 ?_
  refine r_iload_n S dX4_move_4 rfl 2 rfl ?_
  refine r_aload_n S dX4_move_5 rfl 0 rfl ?_
  refine r_get (T := TX4) (ci := 4) S (tlA inlX4) rfl 0 rfl 1 (Nat.le_of_ble_eq_true rfl) (tl u68) rfl dX4_move_6 ?_
  refine r_iload_n S dX4_move_9 rfl 1 rfl ?_
  obtain ⟨v1, h_v1, hm⟩ := bS hm
  refine r_iald S h_v1 2 0 rfl rfl dX4_move_10 ?_
  obtain ⟨g2, h_g2, hm⟩ := bS hm
  refine r_iast S h_g2 2 0 rfl rfl (ws' := [(aT, .inr (4, [.int T_count, .ref aT_xs, .ref aT_ys, .ref aT_ws])), (aT_ws, .inl (cI, 24, .inl T_ws)), (aT_xs, .inl (cI, 24, .inl g2)), (aT_ys, .inl (cI, 24, .inl T_ys))]) rfl dX4_move_11 ?_
  refine r_aload_n S dX4_move_12 rfl 0 rfl ?_
  refine r_get (T := TX4) (ci := 4) S (tlA inlX4) rfl 0 rfl 2 (Nat.le_of_ble_eq_true rfl) (tl u69) rfl dX4_move_13 ?_
  refine r_iload_n S dX4_move_16 rfl 2 rfl ?_
  refine r_aload_n S dX4_move_17 rfl 0 rfl ?_
  refine r_get (T := TX4) (ci := 4) S (tlA inlX4) rfl 0 rfl 2 (Nat.le_of_ble_eq_true rfl) (tl u69) rfl dX4_move_18 ?_
  refine r_iload_n S dX4_move_21 rfl 1 rfl ?_
  obtain ⟨v3, h_v3, hm⟩ := bS hm
  refine r_iald S h_v3 3 0 rfl rfl dX4_move_22 ?_
  obtain ⟨g4, h_g4, hm⟩ := bS hm
  refine r_iast S h_g4 3 0 rfl rfl (ws' := [(aT, .inr (4, [.int T_count, .ref aT_xs, .ref aT_ys, .ref aT_ws])), (aT_ws, .inl (cI, 24, .inl T_ws)), (aT_xs, .inl (cI, 24, .inl g2)), (aT_ys, .inl (cI, 24, .inl g4))]) rfl dX4_move_23 ?_
  refine r_aload_n S dX4_move_24 rfl 0 rfl ?_
  refine r_get (T := TX4) (ci := 4) S (tlA inlX4) rfl 0 rfl 3 (Nat.le_of_ble_eq_true rfl) (tl u70) rfl dX4_move_25 ?_
  refine r_iload_n S dX4_move_28 rfl 2 rfl ?_
  refine r_aload_n S dX4_move_29 rfl 0 rfl ?_
  refine r_get (T := TX4) (ci := 4) S (tlA inlX4) rfl 0 rfl 3 (Nat.le_of_ble_eq_true rfl) (tl u70) rfl dX4_move_30 ?_
  refine r_iload_n S dX4_move_33 rfl 1 rfl ?_
  obtain ⟨v5, h_v5, hm⟩ := bS hm
  refine r_iald S h_v5 1 0 rfl rfl dX4_move_34 ?_
  obtain ⟨g6, h_g6, hm⟩ := bS hm
  refine r_iast S h_g6 1 0 rfl rfl (ws' := [(aT, .inr (4, [.int T_count, .ref aT_xs, .ref aT_ys, .ref aT_ws])), (aT_ws, .inl (cI, 24, .inl g6)), (aT_xs, .inl (cI, 24, .inl g2)), (aT_ys, .inl (cI, 24, .inl g4))]) rfl dX4_move_35 ?_
  exact hR (g6, g2, g4) _ _ hm dX4_move_36
def wtX4_put : List Cond := Cond.code yX4_put cX4_put 5 none :: wsL_law
theorem ok_X4_put : CallOK yX4_put wtX4_put RX4 3 5 := ⟨⟨_, _, _, rfl⟩, rfl, ⟨by decide +kernel, by decide +kernel⟩, by decide +kernel⟩
set_option maxRecDepth 100000 in
set_option maxHeartbeats 4000000 in
theorem c_X4_put (l0 : Launch) (D0 : va_G) (cI cJ cZ cY : ClassId) (F : Nat) (aT aT_xs aT_ys aT_ws : Nat) (T_count : Int32) (T_ws : Nat → Int32) (T_xs : Nat → Int32) (T_ys : Nat → Int32) (x1 : Int32) (x2 : Int32) (x3 : Int32) (res : Int32 × (Nat → Int32) × (Nat → Int32) × (Nat → Int32)) (hm : mX4_put F x1 x2 x3 T_count T_ws T_xs T_ys = some res) : Cv D0 [(cI, .int), (cJ, .long), (cZ, .boolean), (cY, .array .int)] l0 yX4_put wtX4_put ({ frames := 1, cells := 0, slots := 0, locals := 22 }) [.ref aT, .int x1, .int x2, .int x3] [(aT, .inr (4, [.int T_count, .ref aT_xs, .ref aT_ys, .ref aT_ws])), (aT_ws, .inl (cI, 24, .inl T_ws)), (aT_xs, .inl (cI, 24, .inl T_xs)), (aT_ys, .inl (cI, 24, .inl T_ys))] [(aT, .inr (4, [.int (res.1), .ref aT_xs, .ref aT_ys, .ref aT_ws])), (aT_ws, .inl (cI, 24, .inl (res.2.1))), (aT_xs, .inl (cI, 24, .inl (res.2.2.1))), (aT_ys, .inl (cI, 24, .inl (res.2.2.2)))] := by
  refine Cv.ofv cX4_put 5 (own := RX4) (by decide +kernel) rfl rfl (Nat.le_of_ble_eq_true rfl) ?_
  intro X S hR0
  have hR : ∀ (r9 : Int32 × (Nat → Int32) × (Nat → Int32) × (Nat → Int32)) (pc : Nat) (lv : List (Nat × Value)), some r9 = some res → decode cX4_put pc = .ok (.return_, 1) → G X pc lv [] [(aT, .inr (4, [.int (r9.1), .ref aT_xs, .ref aT_ys, .ref aT_ws])), (aT_ws, .inl (cI, 24, .inl (r9.2.1))), (aT_xs, .inl (cI, 24, .inl (r9.2.2.1))), (aT_ys, .inl (cI, 24, .inl (r9.2.2.2)))] := fun r9 pc lv h9 hd => by cases h9; exact hR0 pc lv hd
  show G X 0 [(0, .ref aT), (1, .int x1), (2, .int x2), (3, .int x3)] [] [(aT, .inr (4, [.int T_count, .ref aT_xs, .ref aT_ys, .ref aT_ws])), (aT_ws, .inl (cI, 24, .inl T_ws)), (aT_xs, .inl (cI, 24, .inl T_xs)), (aT_ys, .inl (cI, 24, .inl T_ys))]
  unfold mX4_put at hm
  refine r_aload_n S dX4_put_0 rfl 0 rfl ?_
  refine r_get (T := TX4) (ci := 4) S (tlA inlX4) rfl 0 rfl 0 (Nat.le_of_ble_eq_true rfl) (tl u67) rfl dX4_put_1 ?_
  refine r_bipush (v := (24 : Int32)) S dX4_put_4 rfl ?_
  refine r_icmp_lt 10 S dX4_put_6 (by decide) (fun c1 => ?_) (fun c1 => ?_)
  · replace hm := iT c1 hm
    refine r_aload_n S dX4_put_10 rfl 0 rfl ?_
    refine r_get (T := TX4) (ci := 4) S (tlA inlX4) rfl 0 rfl 0 (Nat.le_of_ble_eq_true rfl) (tl u67) rfl dX4_put_11 ?_
    refine r_istore S dX4_put_14 (Nat.le_of_ble_eq_true rfl) (lv' := [(4, .int T_count), (0, .ref aT), (1, .int x1), (2, .int x2), (3, .int x3)]) rfl ?_
    obtain ⟨q2, hl16, hm⟩ := bS hm
    have hE16_76 : ∀ (r2 : Int32 × (Nat → Int32) × (Nat → Int32) × (Nat → Int32)), r2 = q2 → G X 76 [(0, .ref aT), (1, .int x1), (2, .int x2), (3, .int x3), (4, .int r2.1)] [] [(aT, .inr (4, [.int T_count, .ref aT_xs, .ref aT_ys, .ref aT_ws])), (aT_ws, .inl (cI, 24, .inl r2.2.1)), (aT_xs, .inl (cI, 24, .inl r2.2.2.1)), (aT_ys, .inl (cI, 24, .inl r2.2.2.2))] := by
      intro r2 h9
      subst h9
      refine r_aload_n S dX4_put_76 rfl 0 rfl ?_
      refine r_get (T := TX4) (ci := 4) S (tlA inlX4) rfl 0 rfl 1 (Nat.le_of_ble_eq_true rfl) (tl u68) rfl dX4_put_77 ?_
      refine r_iload S dX4_put_80 4 rfl ?_
      refine r_iload_n S dX4_put_82 rfl 1 rfl ?_
      obtain ⟨g12, h_g12, hm⟩ := bS hm
      refine r_iast S h_g12 2 0 rfl rfl (ws' := [(aT, .inr (4, [.int T_count, .ref aT_xs, .ref aT_ys, .ref aT_ws])), (aT_ws, .inl (cI, 24, .inl r2.2.1)), (aT_xs, .inl (cI, 24, .inl g12)), (aT_ys, .inl (cI, 24, .inl r2.2.2.2))]) rfl dX4_put_83 ?_
      refine r_aload_n S dX4_put_84 rfl 0 rfl ?_
      refine r_get (T := TX4) (ci := 4) S (tlA inlX4) rfl 0 rfl 2 (Nat.le_of_ble_eq_true rfl) (tl u69) rfl dX4_put_85 ?_
      refine r_iload S dX4_put_88 4 rfl ?_
      refine r_iload_n S dX4_put_90 rfl 2 rfl ?_
      obtain ⟨g13, h_g13, hm⟩ := bS hm
      refine r_iast S h_g13 3 0 rfl rfl (ws' := [(aT, .inr (4, [.int T_count, .ref aT_xs, .ref aT_ys, .ref aT_ws])), (aT_ws, .inl (cI, 24, .inl r2.2.1)), (aT_xs, .inl (cI, 24, .inl g12)), (aT_ys, .inl (cI, 24, .inl g13))]) rfl dX4_put_91 ?_
      refine r_aload_n S dX4_put_92 rfl 0 rfl ?_
      refine r_get (T := TX4) (ci := 4) S (tlA inlX4) rfl 0 rfl 3 (Nat.le_of_ble_eq_true rfl) (tl u70) rfl dX4_put_93 ?_
      refine r_iload S dX4_put_96 4 rfl ?_
      refine r_iload_n S dX4_put_98 rfl 3 rfl ?_
      obtain ⟨g14, h_g14, hm⟩ := bS hm
      refine r_iast S h_g14 1 0 rfl rfl (ws' := [(aT, .inr (4, [.int T_count, .ref aT_xs, .ref aT_ys, .ref aT_ws])), (aT_ws, .inl (cI, 24, .inl g14)), (aT_xs, .inl (cI, 24, .inl g12)), (aT_ys, .inl (cI, 24, .inl g13))]) rfl dX4_put_99 ?_
      refine r_aload_n S dX4_put_100 rfl 0 rfl ?_
      refine r_dup S dX4_put_101 rfl ?_
      refine r_get (T := TX4) (ci := 4) S (tlA inlX4) rfl 0 rfl 0 (Nat.le_of_ble_eq_true rfl) (tl u67) rfl dX4_put_102 ?_
      refine r_iconst (v := (1 : Int32)) S dX4_put_105 rfl ?_
      refine r_iadd S dX4_put_106 ?_
      obtain ⟨v15, h_v15, hm⟩ := bS hm
      refine r_topI h_v15 ?_
      refine r_put (T := TX4) (ci := 4) S (tlA inlX4) tyX4 tyX4_ok nmX4 rfl 0 rfl 0 (Nat.le_of_ble_eq_true rfl) (tl u67) rfl rfl rfl (Nat.le_of_ble_eq_true rfl) (ws' := [(aT, .inr (4, [.int v15, .ref aT_xs, .ref aT_ys, .ref aT_ws])), (aT_ws, .inl (cI, 24, .inl g14)), (aT_xs, .inl (cI, 24, .inl g12)), (aT_ys, .inl (cI, 24, .inl g13))]) rfl dX4_put_107 ?_
      exact hR (v15, g14, g12, g13) _ _ hm dX4_put_110
    refine r_lv [1, 2, 3, 4, 0] (lv' := [(0, .ref aT), (1, .int x1), (2, .int x2), (3, .int x3), (4, .int T_count)]) rfl ?_
    refine loopG (r0 := q2) (Gd := fun s9 => G X 16 [(0, .ref aT), (1, .int x1), (2, .int x2), (3, .int x3), (4, .int s9.1)] [] [(aT, .inr (4, [.int T_count, .ref aT_xs, .ref aT_ys, .ref aT_ws])), (aT_ws, .inl (cI, 24, .inl s9.2.1)), (aT_xs, .inl (cI, 24, .inl s9.2.2.1)), (aT_ys, .inl (cI, 24, .inl s9.2.2.2))]) ?_ _ _ hl16
    rintro ⟨x4_16, T_ws_16, T_xs_16, T_ys_16⟩ b16 hm hk16 hr16
    replace hm : mX4_put_b16 F x1 x2 x4_16 T_ws_16 T_xs_16 T_ys_16 = some b16 := hm
    unfold mX4_put_b16 at hm
    show G X 16 [(0, .ref aT), (1, .int x1), (2, .int x2), (3, .int x3), (4, .int x4_16)] [] [(aT, .inr (4, [.int T_count, .ref aT_xs, .ref aT_ys, .ref aT_ws])), (aT_ws, .inl (cI, 24, .inl T_ws_16)), (aT_xs, .inl (cI, 24, .inl T_xs_16)), (aT_ys, .inl (cI, 24, .inl T_ys_16))]
    refine r_iload S dX4_put_16 4 rfl ?_
    refine r_if_le 76 S dX4_put_18 (by decide) (fun c3 => ?_) (fun c3 => ?_)
    · replace hm := iT c3 hm
      exact hE16_76 (x4_16, T_ws_16, T_xs_16, T_ys_16) (hr16 _ (Option.some.inj hm).symm)
    · replace hm := iF c3 hm
      refine r_aload_n S dX4_put_21 rfl 0 rfl ?_
      refine r_get (T := TX4) (ci := 4) S (tlA inlX4) rfl 0 rfl 1 (Nat.le_of_ble_eq_true rfl) (tl u68) rfl dX4_put_22 ?_
      refine r_iload S dX4_put_25 4 rfl ?_
      refine r_iconst (v := (1 : Int32)) S dX4_put_27 rfl ?_
      refine r_isub S dX4_put_28 ?_
      obtain ⟨v4, h_v4, hm⟩ := bS hm
      refine r_iald S h_v4 2 0 rfl rfl dX4_put_29 ?_
      refine r_iload_n S dX4_put_30 rfl 1 rfl ?_
      refine r_icmp_gt 60 S dX4_put_31 (by decide) (fun c5 => ?_) (fun c5 => ?_)
      · replace hm := iT c5 hm
        refine r_aload_n S dX4_put_60 rfl 0 rfl ?_
        refine r_iload S dX4_put_61 4 rfl ?_
        refine r_iconst (v := (1 : Int32)) S dX4_put_63 rfl ?_
        refine r_isub S dX4_put_64 ?_
        refine r_iload S dX4_put_65 4 rfl ?_
        obtain ⟨r6, h_r6, hm⟩ := bS hm
        refine r_callvV S (c_X4_move l0 D0 cI cJ cZ cY F aT aT_xs aT_ys aT_ws T_count T_ws_16 T_xs_16 T_ys_16 (x4_16 - (1 : Int32)) x4_16 _ h_r6) (gV u157 u158 u159 u46 u160) ok_X4_move ⟨rfl, rfl⟩ ⟨Nat.le_of_ble_eq_true rfl, Nat.le_of_ble_eq_true rfl⟩ [0, 1, 2, 3] [] rfl (wr := []) rfl rfl rfl (by decide) (ci := 4) (T := TX4) 0 rfl rfl (ws' := [(aT, .inr (4, [.int T_count, .ref aT_xs, .ref aT_ys, .ref aT_ws])), (aT_ws, .inl (cI, 24, .inl r6.1)), (aT_xs, .inl (cI, 24, .inl r6.2.1)), (aT_ys, .inl (cI, 24, .inl r6.2.2))]) rfl (As := [.int (x4_16 - (1 : Int32)), .int x4_16]) (rest := []) rfl rfl (Nat.le_of_ble_eq_true rfl) dX4_put_67 ?_
        refine r_iincc S dX4_put_70 4 rfl (c0 := (-1 : Int32)) rfl rfl (Nat.le_of_ble_eq_true rfl) (lv' := [(4, .int (x4_16 + (-1 : Int32))), (0, .ref aT), (1, .int x1), (2, .int x2), (3, .int x3)]) rfl ?_
        refine r_goto 16 S dX4_put_73 (by decide) ?_
        refine r_lv [1, 2, 3, 4, 0] (lv' := [(0, .ref aT), (1, .int x1), (2, .int x2), (3, .int x3), (4, .int (x4_16 + (-1 : Int32)))]) rfl ?_
        exact hk16 ((x4_16 + (-1 : Int32)), r6.1, r6.2.1, r6.2.2) (Option.some.inj hm).symm
      · replace hm := iF c5 hm
        refine r_aload_n S dX4_put_34 rfl 0 rfl ?_
        refine r_get (T := TX4) (ci := 4) S (tlA inlX4) rfl 0 rfl 1 (Nat.le_of_ble_eq_true rfl) (tl u68) rfl dX4_put_35 ?_
        refine r_iload S dX4_put_38 4 rfl ?_
        refine r_iconst (v := (1 : Int32)) S dX4_put_40 rfl ?_
        refine r_isub S dX4_put_41 ?_
        obtain ⟨v7, h_v7, hm⟩ := bS hm
        refine r_iald S h_v7 2 0 rfl rfl dX4_put_42 ?_
        refine r_iload_n S dX4_put_43 rfl 1 rfl ?_
        refine r_icmp_ne 76 S dX4_put_44 (by decide) (fun c8 => ?_) (fun c8 => ?_)
        · replace hm := iF c8 hm
          exact hE16_76 (x4_16, T_ws_16, T_xs_16, T_ys_16) (hr16 _ (Option.some.inj hm).symm)
        · replace hm := iT c8 hm
          refine r_aload_n S dX4_put_47 rfl 0 rfl ?_
          refine r_get (T := TX4) (ci := 4) S (tlA inlX4) rfl 0 rfl 2 (Nat.le_of_ble_eq_true rfl) (tl u69) rfl dX4_put_48 ?_
          refine r_iload S dX4_put_51 4 rfl ?_
          refine r_iconst (v := (1 : Int32)) S dX4_put_53 rfl ?_
          refine r_isub S dX4_put_54 ?_
          obtain ⟨v9, h_v9, hm⟩ := bS hm
          refine r_iald S h_v9 3 0 rfl rfl dX4_put_55 ?_
          refine r_iload_n S dX4_put_56 rfl 2 rfl ?_
          refine r_icmp_le 76 S dX4_put_57 (by decide) (fun c10 => ?_) (fun c10 => ?_)
          · replace hm := iT c10 hm
            exact hE16_76 (x4_16, T_ws_16, T_xs_16, T_ys_16) (hr16 _ (Option.some.inj hm).symm)
          · replace hm := iF c10 hm
            refine r_aload_n S dX4_put_60 rfl 0 rfl ?_
            refine r_iload S dX4_put_61 4 rfl ?_
            refine r_iconst (v := (1 : Int32)) S dX4_put_63 rfl ?_
            refine r_isub S dX4_put_64 ?_
            refine r_iload S dX4_put_65 4 rfl ?_
            obtain ⟨r11, h_r11, hm⟩ := bS hm
            refine r_callvV S (c_X4_move l0 D0 cI cJ cZ cY F aT aT_xs aT_ys aT_ws T_count T_ws_16 T_xs_16 T_ys_16 (x4_16 - (1 : Int32)) x4_16 _ h_r11) (gV u157 u158 u159 u46 u160) ok_X4_move ⟨rfl, rfl⟩ ⟨Nat.le_of_ble_eq_true rfl, Nat.le_of_ble_eq_true rfl⟩ [0, 1, 2, 3] [] rfl (wr := []) rfl rfl rfl (by decide) (ci := 4) (T := TX4) 0 rfl rfl (ws' := [(aT, .inr (4, [.int T_count, .ref aT_xs, .ref aT_ys, .ref aT_ws])), (aT_ws, .inl (cI, 24, .inl r11.1)), (aT_xs, .inl (cI, 24, .inl r11.2.1)), (aT_ys, .inl (cI, 24, .inl r11.2.2))]) rfl (As := [.int (x4_16 - (1 : Int32)), .int x4_16]) (rest := []) rfl rfl (Nat.le_of_ble_eq_true rfl) dX4_put_67 ?_
            refine r_iincc S dX4_put_70 4 rfl (c0 := (-1 : Int32)) rfl rfl (Nat.le_of_ble_eq_true rfl) (lv' := [(4, .int (x4_16 + (-1 : Int32))), (0, .ref aT), (1, .int x1), (2, .int x2), (3, .int x3)]) rfl ?_
            refine r_goto 16 S dX4_put_73 (by decide) ?_
            refine r_lv [1, 2, 3, 4, 0] (lv' := [(0, .ref aT), (1, .int x1), (2, .int x2), (3, .int x3), (4, .int (x4_16 + (-1 : Int32)))]) rfl ?_
            exact hk16 ((x4_16 + (-1 : Int32)), r11.1, r11.2.1, r11.2.2) (Option.some.inj hm).symm
  · replace hm := iF c1 hm
    exact hR (T_count, T_ws, T_xs, T_ys) _ _ hm dX4_put_9
def wtX4_drop : List Cond := Cond.code yX4_drop cX4_drop 3 none :: wsL_law
theorem ok_X4_drop : CallOK yX4_drop wtX4_drop RX4 1 3 := ⟨⟨_, _, _, rfl⟩, rfl, ⟨by decide +kernel, by decide +kernel⟩, by decide +kernel⟩
set_option maxRecDepth 100000 in
set_option maxHeartbeats 4000000 in
theorem c_X4_drop (l0 : Launch) (D0 : va_G) (cI cJ cZ cY : ClassId) (F : Nat) (aT aT_xs aT_ys aT_ws : Nat) (T_count : Int32) (T_ws : Nat → Int32) (T_xs : Nat → Int32) (T_ys : Nat → Int32) (x1 : Int32) (res : Int32 × (Nat → Int32) × (Nat → Int32) × (Nat → Int32)) (hm : mX4_drop F x1 T_count T_ws T_xs T_ys = some res) : Cv D0 [(cI, .int), (cJ, .long), (cZ, .boolean), (cY, .array .int)] l0 yX4_drop wtX4_drop ({ frames := 1, cells := 0, slots := 0, locals := 22 }) [.ref aT, .int x1] [(aT, .inr (4, [.int T_count, .ref aT_xs, .ref aT_ys, .ref aT_ws])), (aT_ws, .inl (cI, 24, .inl T_ws)), (aT_xs, .inl (cI, 24, .inl T_xs)), (aT_ys, .inl (cI, 24, .inl T_ys))] [(aT, .inr (4, [.int (res.1), .ref aT_xs, .ref aT_ys, .ref aT_ws])), (aT_ws, .inl (cI, 24, .inl (res.2.1))), (aT_xs, .inl (cI, 24, .inl (res.2.2.1))), (aT_ys, .inl (cI, 24, .inl (res.2.2.2)))] := by
  refine Cv.ofv cX4_drop 3 (own := RX4) (by decide +kernel) rfl rfl (Nat.le_of_ble_eq_true rfl) ?_
  intro X S hR0
  have hR : ∀ (r9 : Int32 × (Nat → Int32) × (Nat → Int32) × (Nat → Int32)) (pc : Nat) (lv : List (Nat × Value)), some r9 = some res → decode cX4_drop pc = .ok (.return_, 1) → G X pc lv [] [(aT, .inr (4, [.int (r9.1), .ref aT_xs, .ref aT_ys, .ref aT_ws])), (aT_ws, .inl (cI, 24, .inl (r9.2.1))), (aT_xs, .inl (cI, 24, .inl (r9.2.2.1))), (aT_ys, .inl (cI, 24, .inl (r9.2.2.2)))] := fun r9 pc lv h9 hd => by cases h9; exact hR0 pc lv hd
  show G X 0 [(0, .ref aT), (1, .int x1)] [] [(aT, .inr (4, [.int T_count, .ref aT_xs, .ref aT_ys, .ref aT_ws])), (aT_ws, .inl (cI, 24, .inl T_ws)), (aT_xs, .inl (cI, 24, .inl T_xs)), (aT_ys, .inl (cI, 24, .inl T_ys))]
  unfold mX4_drop at hm
  refine r_iload_n S dX4_drop_0 rfl 1 rfl ?_
  refine r_if_lt 12 S dX4_drop_1 (by decide) (fun c1 => ?_) (fun c1 => ?_)
  · replace hm := iT c1 hm
    exact hR (T_count, T_ws, T_xs, T_ys) _ _ hm dX4_drop_12
  · replace hm := iF c1 hm
    refine r_iload_n S dX4_drop_4 rfl 1 rfl ?_
    refine r_aload_n S dX4_drop_5 rfl 0 rfl ?_
    refine r_get (T := TX4) (ci := 4) S (tlA inlX4) rfl 0 rfl 0 (Nat.le_of_ble_eq_true rfl) (tl u67) rfl dX4_drop_6 ?_
    refine r_icmp_lt 13 S dX4_drop_9 (by decide) (fun c2 => ?_) (fun c2 => ?_)
    · replace hm := iT c2 hm
      refine r_iload_n S dX4_drop_13 rfl 1 rfl ?_
      refine r_iconst (v := (1 : Int32)) S dX4_drop_14 rfl ?_
      refine r_iadd S dX4_drop_15 ?_
      obtain ⟨v3, h_v3, hm⟩ := bS hm
      refine r_topI h_v3 ?_
      refine r_istore_n S dX4_drop_16 rfl (Nat.le_of_ble_eq_true rfl) (lv' := [(2, .int v3), (0, .ref aT), (1, .int x1)]) rfl ?_
      have hR17 : ∀ (r9 : Int32 × (Nat → Int32) × (Nat → Int32) × (Nat → Int32)) (pc : Nat) (lv : List (Nat × Value)), r9 = res → decode cX4_drop pc = .ok (.return_, 1) → G X pc lv [] [(aT, .inr (4, [.int (r9.1), .ref aT_xs, .ref aT_ys, .ref aT_ws])), (aT_ws, .inl (cI, 24, .inl (r9.2.1))), (aT_xs, .inl (cI, 24, .inl (r9.2.2.1))), (aT_ys, .inl (cI, 24, .inl (r9.2.2.2)))] := fun r9 pc lv h9 hd => hR r9 pc lv (congrArg some h9) hd
      refine r_lv [1, 0] (lv' := [(0, .ref aT), (2, .int v3)]) rfl ?_
      refine loopG (r0 := res) (Gd := fun s9 => G X 17 [(0, .ref aT), (2, .int s9.1)] [] [(aT, .inr (4, [.int T_count, .ref aT_xs, .ref aT_ys, .ref aT_ws])), (aT_ws, .inl (cI, 24, .inl s9.2.1)), (aT_xs, .inl (cI, 24, .inl s9.2.2.1)), (aT_ys, .inl (cI, 24, .inl s9.2.2.2))]) ?_ _ _ hm
      rintro ⟨x2_17, T_ws_17, T_xs_17, T_ys_17⟩ b17 hm hk17 hr17
      replace hm : mX4_drop_b17 F T_count x2_17 T_ws_17 T_xs_17 T_ys_17 = some b17 := hm
      unfold mX4_drop_b17 at hm
      show G X 17 [(0, .ref aT), (2, .int x2_17)] [] [(aT, .inr (4, [.int T_count, .ref aT_xs, .ref aT_ys, .ref aT_ws])), (aT_ws, .inl (cI, 24, .inl T_ws_17)), (aT_xs, .inl (cI, 24, .inl T_xs_17)), (aT_ys, .inl (cI, 24, .inl T_ys_17))]
      refine r_iload_n S dX4_drop_17 rfl 1 rfl ?_
      refine r_aload_n S dX4_drop_18 rfl 0 rfl ?_
      refine r_get (T := TX4) (ci := 4) S (tlA inlX4) rfl 0 rfl 0 (Nat.le_of_ble_eq_true rfl) (tl u67) rfl dX4_drop_19 ?_
      refine r_icmp_ge 39 S dX4_drop_22 (by decide) (fun c5 => ?_) (fun c5 => ?_)
      · replace hm := iT c5 hm
        refine r_aload_n S dX4_drop_39 rfl 0 rfl ?_
        refine r_dup S dX4_drop_40 rfl ?_
        refine r_get (T := TX4) (ci := 4) S (tlA inlX4) rfl 0 rfl 0 (Nat.le_of_ble_eq_true rfl) (tl u67) rfl dX4_drop_41 ?_
        refine r_iconst (v := (1 : Int32)) S dX4_drop_44 rfl ?_
        refine r_isub S dX4_drop_45 ?_
        obtain ⟨v6, h_v6, hm⟩ := bS hm
        refine r_topI h_v6 ?_
        refine r_put (T := TX4) (ci := 4) S (tlA inlX4) tyX4 tyX4_ok nmX4 rfl 0 rfl 0 (Nat.le_of_ble_eq_true rfl) (tl u67) rfl rfl rfl (Nat.le_of_ble_eq_true rfl) (ws' := [(aT, .inr (4, [.int v6, .ref aT_xs, .ref aT_ys, .ref aT_ws])), (aT_ws, .inl (cI, 24, .inl T_ws_17)), (aT_xs, .inl (cI, 24, .inl T_xs_17)), (aT_ys, .inl (cI, 24, .inl T_ys_17))]) rfl dX4_drop_46 ?_
        exact hR17 (v6, T_ws_17, T_xs_17, T_ys_17) _ _ (hr17 _ (Option.some.inj hm).symm) dX4_drop_49
      · replace hm := iF c5 hm
        refine r_aload_n S dX4_drop_25 rfl 0 rfl ?_
        refine r_iload_n S dX4_drop_26 rfl 1 rfl ?_
        refine r_iload_n S dX4_drop_27 rfl 1 rfl ?_
        refine r_iconst (v := (1 : Int32)) S dX4_drop_28 rfl ?_
        refine r_isub S dX4_drop_29 ?_
        obtain ⟨r7, h_r7, hm⟩ := bS hm
        refine r_callvV S (c_X4_move l0 D0 cI cJ cZ cY F aT aT_xs aT_ys aT_ws T_count T_ws_17 T_xs_17 T_ys_17 x2_17 (x2_17 - (1 : Int32)) _ h_r7) (gV u157 u158 u159 u46 u160) ok_X4_move ⟨rfl, rfl⟩ ⟨Nat.le_of_ble_eq_true rfl, Nat.le_of_ble_eq_true rfl⟩ [0, 1, 2, 3] [] rfl (wr := []) rfl rfl rfl (by decide) (ci := 4) (T := TX4) 0 rfl rfl (ws' := [(aT, .inr (4, [.int T_count, .ref aT_xs, .ref aT_ys, .ref aT_ws])), (aT_ws, .inl (cI, 24, .inl r7.1)), (aT_xs, .inl (cI, 24, .inl r7.2.1)), (aT_ys, .inl (cI, 24, .inl r7.2.2))]) rfl (As := [.int x2_17, .int (x2_17 - (1 : Int32))]) (rest := []) rfl rfl (Nat.le_of_ble_eq_true rfl) dX4_drop_30 ?_
        refine r_iincc S dX4_drop_33 1 rfl (c0 := (1 : Int32)) rfl rfl (Nat.le_of_ble_eq_true rfl) (lv' := [(2, .int (x2_17 + (1 : Int32))), (0, .ref aT)]) rfl ?_
        refine r_goto 17 S dX4_drop_36 (by decide) ?_
        refine r_lv [1, 0] (lv' := [(0, .ref aT), (2, .int (x2_17 + (1 : Int32)))]) rfl ?_
        exact hk17 ((x2_17 + (1 : Int32)), r7.1, r7.2.1, r7.2.2) (Option.some.inj hm).symm
    · replace hm := iF c2 hm
      exact hR (T_count, T_ws, T_xs, T_ys) _ _ hm dX4_drop_12
def wtX4_copy : List Cond := Cond.code yX4_copy cX4_copy 3 none :: wsL_law
theorem ok_X4_copy : CallOK yX4_copy wtX4_copy RX4 1 3 := ⟨⟨_, _, _, rfl⟩, rfl, ⟨by decide +kernel, by decide +kernel⟩, by decide +kernel⟩
set_option maxRecDepth 100000 in
set_option maxHeartbeats 4000000 in
theorem c_X4_copy (l0 : Launch) (D0 : va_G) (cI cJ cZ cY : ClassId) (F : Nat) (aT aq1 aT_xs aT_ys aT_ws aq1_xs aq1_ys aq1_ws : Nat) (T_count : Int32) (q1_count : Int32) (T_ws : Nat → Int32) (T_xs : Nat → Int32) (T_ys : Nat → Int32) (q1_ws : Nat → Int32) (q1_xs : Nat → Int32) (q1_ys : Nat → Int32) (res : Int32 × (Nat → Int32) × (Nat → Int32) × (Nat → Int32)) (hm : mX4_copy F T_count q1_count T_ws T_xs T_ys q1_ws q1_xs q1_ys = some res) : Cv D0 [(cI, .int), (cJ, .long), (cZ, .boolean), (cY, .array .int)] l0 yX4_copy wtX4_copy ({ frames := 0, cells := 0, slots := 0, locals := 0 }) [.ref aT, .ref aq1] [(aT, .inr (4, [.int T_count, .ref aT_xs, .ref aT_ys, .ref aT_ws])), (aq1, .inr (4, [.int q1_count, .ref aq1_xs, .ref aq1_ys, .ref aq1_ws])), (aT_ws, .inl (cI, 24, .inl T_ws)), (aT_xs, .inl (cI, 24, .inl T_xs)), (aT_ys, .inl (cI, 24, .inl T_ys)), (aq1_ws, .inl (cI, 24, .inl q1_ws)), (aq1_xs, .inl (cI, 24, .inl q1_xs)), (aq1_ys, .inl (cI, 24, .inl q1_ys))] [(aT, .inr (4, [.int (res.1), .ref aT_xs, .ref aT_ys, .ref aT_ws])), (aq1, .inr (4, [.int q1_count, .ref aq1_xs, .ref aq1_ys, .ref aq1_ws])), (aT_ws, .inl (cI, 24, .inl (res.2.1))), (aT_xs, .inl (cI, 24, .inl (res.2.2.1))), (aT_ys, .inl (cI, 24, .inl (res.2.2.2))), (aq1_ws, .inl (cI, 24, .inl q1_ws)), (aq1_xs, .inl (cI, 24, .inl q1_xs)), (aq1_ys, .inl (cI, 24, .inl q1_ys))] := by
  refine Cv.ofv cX4_copy 3 (own := RX4) (by decide +kernel) rfl rfl (Nat.le_of_ble_eq_true rfl) ?_
  intro X S hR0
  have hR : ∀ (r9 : Int32 × (Nat → Int32) × (Nat → Int32) × (Nat → Int32)) (pc : Nat) (lv : List (Nat × Value)), some r9 = some res → decode cX4_copy pc = .ok (.return_, 1) → G X pc lv [] [(aT, .inr (4, [.int (r9.1), .ref aT_xs, .ref aT_ys, .ref aT_ws])), (aq1, .inr (4, [.int q1_count, .ref aq1_xs, .ref aq1_ys, .ref aq1_ws])), (aT_ws, .inl (cI, 24, .inl (r9.2.1))), (aT_xs, .inl (cI, 24, .inl (r9.2.2.1))), (aT_ys, .inl (cI, 24, .inl (r9.2.2.2))), (aq1_ws, .inl (cI, 24, .inl q1_ws)), (aq1_xs, .inl (cI, 24, .inl q1_xs)), (aq1_ys, .inl (cI, 24, .inl q1_ys))] := fun r9 pc lv h9 hd => by cases h9; exact hR0 pc lv hd
  show G X 0 [(0, .ref aT), (1, .ref aq1)] [] [(aT, .inr (4, [.int T_count, .ref aT_xs, .ref aT_ys, .ref aT_ws])), (aq1, .inr (4, [.int q1_count, .ref aq1_xs, .ref aq1_ys, .ref aq1_ws])), (aT_ws, .inl (cI, 24, .inl T_ws)), (aT_xs, .inl (cI, 24, .inl T_xs)), (aT_ys, .inl (cI, 24, .inl T_ys)), (aq1_ws, .inl (cI, 24, .inl q1_ws)), (aq1_xs, .inl (cI, 24, .inl q1_xs)), (aq1_ys, .inl (cI, 24, .inl q1_ys))]
  unfold mX4_copy at hm
  refine r_aload_n S dX4_copy_0 rfl 0 rfl ?_
  refine r_aload_n S dX4_copy_1 rfl 1 rfl ?_
  refine r_get (T := TX4) (ci := 4) S (tlA inlX4) rfl 1 rfl 0 (Nat.le_of_ble_eq_true rfl) (tl u67) rfl dX4_copy_2 ?_
  refine r_put (T := TX4) (ci := 4) S (tlA inlX4) tyX4 tyX4_ok nmX4 rfl 0 rfl 0 (Nat.le_of_ble_eq_true rfl) (tl u67) rfl rfl rfl (Nat.le_of_ble_eq_true rfl) (ws' := [(aT, .inr (4, [.int q1_count, .ref aT_xs, .ref aT_ys, .ref aT_ws])), (aq1, .inr (4, [.int q1_count, .ref aq1_xs, .ref aq1_ys, .ref aq1_ws])), (aT_ws, .inl (cI, 24, .inl T_ws)), (aT_xs, .inl (cI, 24, .inl T_xs)), (aT_ys, .inl (cI, 24, .inl T_ys)), (aq1_ws, .inl (cI, 24, .inl q1_ws)), (aq1_xs, .inl (cI, 24, .inl q1_xs)), (aq1_ys, .inl (cI, 24, .inl q1_ys))]) rfl dX4_copy_5 ?_
  refine r_iconst (v := (0 : Int32)) S dX4_copy_8 rfl ?_
  refine r_istore_n S dX4_copy_9 rfl (Nat.le_of_ble_eq_true rfl) (lv' := [(2, .int (0 : Int32)), (0, .ref aT), (1, .ref aq1)]) rfl ?_
  have hR10 : ∀ (r9 : Int32 × (Nat → Int32) × (Nat → Int32) × (Nat → Int32)) (pc : Nat) (lv : List (Nat × Value)), r9 = res → decode cX4_copy pc = .ok (.return_, 1) → G X pc lv [] [(aT, .inr (4, [.int (r9.1), .ref aT_xs, .ref aT_ys, .ref aT_ws])), (aq1, .inr (4, [.int q1_count, .ref aq1_xs, .ref aq1_ys, .ref aq1_ws])), (aT_ws, .inl (cI, 24, .inl (r9.2.1))), (aT_xs, .inl (cI, 24, .inl (r9.2.2.1))), (aT_ys, .inl (cI, 24, .inl (r9.2.2.2))), (aq1_ws, .inl (cI, 24, .inl q1_ws)), (aq1_xs, .inl (cI, 24, .inl q1_xs)), (aq1_ys, .inl (cI, 24, .inl q1_ys))] := fun r9 pc lv h9 hd => hR r9 pc lv (congrArg some h9) hd
  refine r_lv [1, 2, 0] (lv' := [(0, .ref aT), (1, .ref aq1), (2, .int (0 : Int32))]) rfl ?_
  refine loopG (r0 := res) (Gd := fun s9 => G X 10 [(0, .ref aT), (1, .ref aq1), (2, .int s9.1)] [] [(aT, .inr (4, [.int q1_count, .ref aT_xs, .ref aT_ys, .ref aT_ws])), (aq1, .inr (4, [.int q1_count, .ref aq1_xs, .ref aq1_ys, .ref aq1_ws])), (aT_ws, .inl (cI, 24, .inl s9.2.1)), (aT_xs, .inl (cI, 24, .inl s9.2.2.1)), (aT_ys, .inl (cI, 24, .inl s9.2.2.2)), (aq1_ws, .inl (cI, 24, .inl q1_ws)), (aq1_xs, .inl (cI, 24, .inl q1_xs)), (aq1_ys, .inl (cI, 24, .inl q1_ys))]) ?_ _ _ hm
  rintro ⟨x2_10, T_ws_10, T_xs_10, T_ys_10⟩ b10 hm hk10 hr10
  replace hm : mX4_copy_b10 F q1_count q1_ws q1_xs q1_ys x2_10 T_ws_10 T_xs_10 T_ys_10 = some b10 := hm
  unfold mX4_copy_b10 at hm
  show G X 10 [(0, .ref aT), (1, .ref aq1), (2, .int x2_10)] [] [(aT, .inr (4, [.int q1_count, .ref aT_xs, .ref aT_ys, .ref aT_ws])), (aq1, .inr (4, [.int q1_count, .ref aq1_xs, .ref aq1_ys, .ref aq1_ws])), (aT_ws, .inl (cI, 24, .inl T_ws_10)), (aT_xs, .inl (cI, 24, .inl T_xs_10)), (aT_ys, .inl (cI, 24, .inl T_ys_10)), (aq1_ws, .inl (cI, 24, .inl q1_ws)), (aq1_xs, .inl (cI, 24, .inl q1_xs)), (aq1_ys, .inl (cI, 24, .inl q1_ys))]
  refine r_iload_n S dX4_copy_10 rfl 2 rfl ?_
  refine r_aload_n S dX4_copy_11 rfl 0 rfl ?_
  refine r_get (T := TX4) (ci := 4) S (tlA inlX4) rfl 0 rfl 0 (Nat.le_of_ble_eq_true rfl) (tl u67) rfl dX4_copy_12 ?_
  refine r_icmp_ge 60 S dX4_copy_15 (by decide) (fun c2 => ?_) (fun c2 => ?_)
  · replace hm := iT c2 hm
    exact hR10 (q1_count, T_ws_10, T_xs_10, T_ys_10) _ _ (hr10 _ (Option.some.inj hm).symm) dX4_copy_60
  · replace hm := iF c2 hm
    refine r_aload_n S dX4_copy_18 rfl 0 rfl ?_
    refine r_get (T := TX4) (ci := 4) S (tlA inlX4) rfl 0 rfl 1 (Nat.le_of_ble_eq_true rfl) (tl u68) rfl dX4_copy_19 ?_
    refine r_iload_n S dX4_copy_22 rfl 2 rfl ?_
    refine r_aload_n S dX4_copy_23 rfl 1 rfl ?_
    refine r_get (T := TX4) (ci := 4) S (tlA inlX4) rfl 1 rfl 1 (Nat.le_of_ble_eq_true rfl) (tl u68) rfl dX4_copy_24 ?_
    refine r_iload_n S dX4_copy_27 rfl 2 rfl ?_
    obtain ⟨v3, h_v3, hm⟩ := bS hm
    refine r_iald S h_v3 6 0 rfl rfl dX4_copy_28 ?_
    obtain ⟨g4, h_g4, hm⟩ := bS hm
    refine r_iast S h_g4 3 0 rfl rfl (ws' := [(aT, .inr (4, [.int q1_count, .ref aT_xs, .ref aT_ys, .ref aT_ws])), (aq1, .inr (4, [.int q1_count, .ref aq1_xs, .ref aq1_ys, .ref aq1_ws])), (aT_ws, .inl (cI, 24, .inl T_ws_10)), (aT_xs, .inl (cI, 24, .inl g4)), (aT_ys, .inl (cI, 24, .inl T_ys_10)), (aq1_ws, .inl (cI, 24, .inl q1_ws)), (aq1_xs, .inl (cI, 24, .inl q1_xs)), (aq1_ys, .inl (cI, 24, .inl q1_ys))]) rfl dX4_copy_29 ?_
    refine r_aload_n S dX4_copy_30 rfl 0 rfl ?_
    refine r_get (T := TX4) (ci := 4) S (tlA inlX4) rfl 0 rfl 2 (Nat.le_of_ble_eq_true rfl) (tl u69) rfl dX4_copy_31 ?_
    refine r_iload_n S dX4_copy_34 rfl 2 rfl ?_
    refine r_aload_n S dX4_copy_35 rfl 1 rfl ?_
    refine r_get (T := TX4) (ci := 4) S (tlA inlX4) rfl 1 rfl 2 (Nat.le_of_ble_eq_true rfl) (tl u69) rfl dX4_copy_36 ?_
    refine r_iload_n S dX4_copy_39 rfl 2 rfl ?_
    obtain ⟨v5, h_v5, hm⟩ := bS hm
    refine r_iald S h_v5 7 0 rfl rfl dX4_copy_40 ?_
    obtain ⟨g6, h_g6, hm⟩ := bS hm
    refine r_iast S h_g6 4 0 rfl rfl (ws' := [(aT, .inr (4, [.int q1_count, .ref aT_xs, .ref aT_ys, .ref aT_ws])), (aq1, .inr (4, [.int q1_count, .ref aq1_xs, .ref aq1_ys, .ref aq1_ws])), (aT_ws, .inl (cI, 24, .inl T_ws_10)), (aT_xs, .inl (cI, 24, .inl g4)), (aT_ys, .inl (cI, 24, .inl g6)), (aq1_ws, .inl (cI, 24, .inl q1_ws)), (aq1_xs, .inl (cI, 24, .inl q1_xs)), (aq1_ys, .inl (cI, 24, .inl q1_ys))]) rfl dX4_copy_41 ?_
    refine r_aload_n S dX4_copy_42 rfl 0 rfl ?_
    refine r_get (T := TX4) (ci := 4) S (tlA inlX4) rfl 0 rfl 3 (Nat.le_of_ble_eq_true rfl) (tl u70) rfl dX4_copy_43 ?_
    refine r_iload_n S dX4_copy_46 rfl 2 rfl ?_
    refine r_aload_n S dX4_copy_47 rfl 1 rfl ?_
    refine r_get (T := TX4) (ci := 4) S (tlA inlX4) rfl 1 rfl 3 (Nat.le_of_ble_eq_true rfl) (tl u70) rfl dX4_copy_48 ?_
    refine r_iload_n S dX4_copy_51 rfl 2 rfl ?_
    obtain ⟨v7, h_v7, hm⟩ := bS hm
    refine r_iald S h_v7 5 0 rfl rfl dX4_copy_52 ?_
    obtain ⟨g8, h_g8, hm⟩ := bS hm
    refine r_iast S h_g8 2 0 rfl rfl (ws' := [(aT, .inr (4, [.int q1_count, .ref aT_xs, .ref aT_ys, .ref aT_ws])), (aq1, .inr (4, [.int q1_count, .ref aq1_xs, .ref aq1_ys, .ref aq1_ws])), (aT_ws, .inl (cI, 24, .inl g8)), (aT_xs, .inl (cI, 24, .inl g4)), (aT_ys, .inl (cI, 24, .inl g6)), (aq1_ws, .inl (cI, 24, .inl q1_ws)), (aq1_xs, .inl (cI, 24, .inl q1_xs)), (aq1_ys, .inl (cI, 24, .inl q1_ys))]) rfl dX4_copy_53 ?_
    refine r_iincc S dX4_copy_54 2 rfl (c0 := (1 : Int32)) rfl rfl (Nat.le_of_ble_eq_true rfl) (lv' := [(2, .int (x2_10 + (1 : Int32))), (0, .ref aT), (1, .ref aq1)]) rfl ?_
    refine r_goto 10 S dX4_copy_57 (by decide) ?_
    refine r_lv [1, 2, 0] (lv' := [(0, .ref aT), (1, .ref aq1), (2, .int (x2_10 + (1 : Int32)))]) rfl ?_
    exact hk10 ((x2_10 + (1 : Int32)), g8, g4, g6) (Option.some.inj hm).symm
def wtX4_nearestTo : List Cond := Cond.code yX4_nearestTo cX4_nearestTo 5 (some .int) :: wsL_law
theorem ok_X4_nearestTo : CallOK yX4_nearestTo wtX4_nearestTo RX4 1 5 := ⟨⟨_, _, _, rfl⟩, rfl, ⟨by decide +kernel, by decide +kernel⟩, by decide +kernel⟩
set_option maxRecDepth 100000 in
set_option maxHeartbeats 4000000 in
theorem c_X4_nearestTo (l0 : Launch) (D0 : va_G) (cI cJ cZ cY : ClassId) (F : Nat) (aT aT_xs aT_ys aT_ws : Nat) (T_count : Int32) (T_xs : Nat → Int32) (T_ys : Nat → Int32) (x1 : Int32) (res : Int32) (hm : mX4_nearestTo F x1 T_count T_xs T_ys = some res) : Ci D0 [(cI, .int), (cJ, .long), (cZ, .boolean), (cY, .array .int)] l0 yX4_nearestTo wtX4_nearestTo ({ frames := 2, cells := 0, slots := 0, locals := 47 }) [.ref aT, .int x1] (res) [(aT, .inr (4, [.int T_count, .ref aT_xs, .ref aT_ys, .ref aT_ws])), (aT_xs, .inl (cI, 24, .inl T_xs)), (aT_ys, .inl (cI, 24, .inl T_ys))] [(aT, .inr (4, [.int T_count, .ref aT_xs, .ref aT_ys, .ref aT_ws])), (aT_xs, .inl (cI, 24, .inl T_xs)), (aT_ys, .inl (cI, 24, .inl T_ys))] := by
  refine Ci.ofi cX4_nearestTo 5 (own := RX4) (by decide +kernel) rfl rfl (Nat.le_of_ble_eq_true rfl) ?_
  intro X S hR0
  have hR : ∀ (r9 : Int32) (pc : Nat) (lv : List (Nat × Value)), some r9 = some res → decode cX4_nearestTo pc = .ok (.ireturn, 1) → G X pc lv [.int (r9)] [(aT, .inr (4, [.int T_count, .ref aT_xs, .ref aT_ys, .ref aT_ws])), (aT_xs, .inl (cI, 24, .inl T_xs)), (aT_ys, .inl (cI, 24, .inl T_ys))] := fun r9 pc lv h9 hd => by cases h9; exact hR0 pc lv hd
  show G X 0 [(0, .ref aT), (1, .int x1)] [] [(aT, .inr (4, [.int T_count, .ref aT_xs, .ref aT_ys, .ref aT_ws])), (aT_xs, .inl (cI, 24, .inl T_xs)), (aT_ys, .inl (cI, 24, .inl T_ys))]
  unfold mX4_nearestTo at hm
  refine r_iconst (v := (-1 : Int32)) S dX4_nearestTo_0 rfl ?_
  refine r_istore_n S dX4_nearestTo_1 rfl (Nat.le_of_ble_eq_true rfl) (lv' := [(2, .int (-1 : Int32)), (0, .ref aT), (1, .int x1)]) rfl ?_
  refine r_iconst (v := (0 : Int32)) S dX4_nearestTo_2 rfl ?_
  refine r_istore_n S dX4_nearestTo_3 rfl (Nat.le_of_ble_eq_true rfl) (lv' := [(3, .int (0 : Int32)), (2, .int (-1 : Int32)), (0, .ref aT), (1, .int x1)]) rfl ?_
  refine r_iconst (v := (0 : Int32)) S dX4_nearestTo_4 rfl ?_
  refine r_istore S dX4_nearestTo_5 (Nat.le_of_ble_eq_true rfl) (lv' := [(4, .int (0 : Int32)), (3, .int (0 : Int32)), (2, .int (-1 : Int32)), (0, .ref aT), (1, .int x1)]) rfl ?_
  have hR7 : ∀ (r9 : Int32) (pc : Nat) (lv : List (Nat × Value)), r9 = res → decode cX4_nearestTo pc = .ok (.ireturn, 1) → G X pc lv [.int (r9)] [(aT, .inr (4, [.int T_count, .ref aT_xs, .ref aT_ys, .ref aT_ws])), (aT_xs, .inl (cI, 24, .inl T_xs)), (aT_ys, .inl (cI, 24, .inl T_ys))] := fun r9 pc lv h9 hd => hR r9 pc lv (congrArg some h9) hd
  refine r_lv [3, 4, 2, 1, 0] (lv' := [(0, .ref aT), (1, .int x1), (2, .int (-1 : Int32)), (3, .int (0 : Int32)), (4, .int (0 : Int32))]) rfl ?_
  refine loopG (r0 := res) (Gd := fun s9 => G X 7 [(0, .ref aT), (1, .int x1), (2, .int s9.1), (3, .int s9.2.1), (4, .int s9.2.2)] [] [(aT, .inr (4, [.int T_count, .ref aT_xs, .ref aT_ys, .ref aT_ws])), (aT_xs, .inl (cI, 24, .inl T_xs)), (aT_ys, .inl (cI, 24, .inl T_ys))]) ?_ _ _ hm
  rintro ⟨x2_7, x3_7, x4_7⟩ b7 hm hk7 hr7
  replace hm : mX4_nearestTo_b7 F x1 T_count T_xs T_ys x2_7 x3_7 x4_7 = some b7 := hm
  unfold mX4_nearestTo_b7 at hm
  show G X 7 [(0, .ref aT), (1, .int x1), (2, .int x2_7), (3, .int x3_7), (4, .int x4_7)] [] [(aT, .inr (4, [.int T_count, .ref aT_xs, .ref aT_ys, .ref aT_ws])), (aT_xs, .inl (cI, 24, .inl T_xs)), (aT_ys, .inl (cI, 24, .inl T_ys))]
  refine r_iload S dX4_nearestTo_7 4 rfl ?_
  refine r_aload_n S dX4_nearestTo_9 rfl 0 rfl ?_
  refine r_get (T := TX4) (ci := 4) S (tlA inlX4) rfl 0 rfl 0 (Nat.le_of_ble_eq_true rfl) (tl u67) rfl dX4_nearestTo_10 ?_
  refine r_icmp_ge 55 S dX4_nearestTo_13 (by decide) (fun c2 => ?_) (fun c2 => ?_)
  · replace hm := iT c2 hm
    refine r_iload_n S dX4_nearestTo_55 rfl 2 rfl ?_
    exact hR7 x2_7 _ _ (hr7 _ (Option.some.inj hm).symm) dX4_nearestTo_56
  · replace hm := iF c2 hm
    refine r_iload S dX4_nearestTo_16 4 rfl ?_
    refine r_iload_n S dX4_nearestTo_18 rfl 1 rfl ?_
    refine r_icmp_eq 49 S dX4_nearestTo_19 (by decide) (fun c3 => ?_) (fun c3 => ?_)
    · replace hm := iT c3 hm
      refine r_iincc S dX4_nearestTo_49 4 rfl (c0 := (1 : Int32)) rfl rfl (Nat.le_of_ble_eq_true rfl) (lv' := [(4, .int (x4_7 + (1 : Int32))), (0, .ref aT), (1, .int x1), (2, .int x2_7), (3, .int x3_7)]) rfl ?_
      refine r_goto 7 S dX4_nearestTo_52 (by decide) ?_
      refine r_lv [1, 2, 3, 4, 0] (lv' := [(0, .ref aT), (1, .int x1), (2, .int x2_7), (3, .int x3_7), (4, .int (x4_7 + (1 : Int32)))]) rfl ?_
      exact hk7 (x2_7, x3_7, (x4_7 + (1 : Int32))) (Option.some.inj hm).symm
    · replace hm := iF c3 hm
      refine r_iload_n S dX4_nearestTo_22 rfl 2 rfl ?_
      refine r_iconst (v := (-1 : Int32)) S dX4_nearestTo_23 rfl ?_
      refine r_icmp_eq 38 S dX4_nearestTo_24 (by decide) (fun c4 => ?_) (fun c4 => ?_)
      · replace hm := iT c4 hm
        refine r_iload S dX4_nearestTo_38 4 rfl ?_
        refine r_istore_n S dX4_nearestTo_40 rfl (Nat.le_of_ble_eq_true rfl) (lv' := [(2, .int x4_7), (0, .ref aT), (1, .int x1), (3, .int x3_7), (4, .int x4_7)]) rfl ?_
        refine r_aload_n S dX4_nearestTo_41 rfl 1 rfl ?_
        refine r_iload_n S dX4_nearestTo_42 rfl 2 rfl ?_
        refine r_iload S dX4_nearestTo_43 4 rfl ?_
        obtain ⟨r5, h_r5, hm⟩ := bS hm
        refine r_calliV S (c_X4_apart l0 D0 cI cJ cZ cY F aT aT_xs aT_ys aT_ws T_count T_xs T_ys x1 x4_7 _ h_r5) (gV u263 u185 u186 u46 u187) ok_X4_apart ⟨rfl, rfl⟩ ⟨Nat.le_of_ble_eq_true rfl, Nat.le_of_ble_eq_true rfl⟩ [0, 1, 2] [] rfl (wr := []) rfl rfl rfl (by decide) (ci := 4) (T := TX4) 0 rfl rfl (ws' := [(aT, .inr (4, [.int T_count, .ref aT_xs, .ref aT_ys, .ref aT_ws])), (aT_xs, .inl (cI, 24, .inl T_xs)), (aT_ys, .inl (cI, 24, .inl T_ys))]) rfl (As := [.int x1, .int x4_7]) (rest := []) rfl rfl (Nat.le_of_ble_eq_true rfl) dX4_nearestTo_45 ?_
        refine r_istore_n S dX4_nearestTo_48 rfl (Nat.le_of_ble_eq_true rfl) (lv' := [(3, .int r5), (2, .int x4_7), (0, .ref aT), (1, .int x1), (4, .int x4_7)]) rfl ?_
        refine r_iincc S dX4_nearestTo_49 4 rfl (c0 := (1 : Int32)) rfl rfl (Nat.le_of_ble_eq_true rfl) (lv' := [(4, .int (x4_7 + (1 : Int32))), (3, .int r5), (2, .int x4_7), (0, .ref aT), (1, .int x1)]) rfl ?_
        refine r_goto 7 S dX4_nearestTo_52 (by decide) ?_
        refine r_lv [3, 4, 2, 1, 0] (lv' := [(0, .ref aT), (1, .int x1), (2, .int x4_7), (3, .int r5), (4, .int (x4_7 + (1 : Int32)))]) rfl ?_
        exact hk7 (x4_7, r5, (x4_7 + (1 : Int32))) (Option.some.inj hm).symm
      · replace hm := iF c4 hm
        refine r_aload_n S dX4_nearestTo_27 rfl 0 rfl ?_
        refine r_iload_n S dX4_nearestTo_28 rfl 1 rfl ?_
        refine r_iload S dX4_nearestTo_29 4 rfl ?_
        obtain ⟨r6, h_r6, hm⟩ := bS hm
        refine r_calliV S (c_X4_apart l0 D0 cI cJ cZ cY F aT aT_xs aT_ys aT_ws T_count T_xs T_ys x1 x4_7 _ h_r6) (gV u263 u185 u186 u46 u187) ok_X4_apart ⟨rfl, rfl⟩ ⟨Nat.le_of_ble_eq_true rfl, Nat.le_of_ble_eq_true rfl⟩ [0, 1, 2] [] rfl (wr := []) rfl rfl rfl (by decide) (ci := 4) (T := TX4) 0 rfl rfl (ws' := [(aT, .inr (4, [.int T_count, .ref aT_xs, .ref aT_ys, .ref aT_ws])), (aT_xs, .inl (cI, 24, .inl T_xs)), (aT_ys, .inl (cI, 24, .inl T_ys))]) rfl (As := [.int x1, .int x4_7]) (rest := []) rfl rfl (Nat.le_of_ble_eq_true rfl) dX4_nearestTo_31 ?_
        refine r_iload_n S dX4_nearestTo_34 rfl 3 rfl ?_
        refine r_icmp_ge 49 S dX4_nearestTo_35 (by decide) (fun c7 => ?_) (fun c7 => ?_)
        · replace hm := iT c7 hm
          refine r_iincc S dX4_nearestTo_49 4 rfl (c0 := (1 : Int32)) rfl rfl (Nat.le_of_ble_eq_true rfl) (lv' := [(4, .int (x4_7 + (1 : Int32))), (0, .ref aT), (1, .int x1), (2, .int x2_7), (3, .int x3_7)]) rfl ?_
          refine r_goto 7 S dX4_nearestTo_52 (by decide) ?_
          refine r_lv [1, 2, 3, 4, 0] (lv' := [(0, .ref aT), (1, .int x1), (2, .int x2_7), (3, .int x3_7), (4, .int (x4_7 + (1 : Int32)))]) rfl ?_
          exact hk7 (x2_7, x3_7, (x4_7 + (1 : Int32))) (Option.some.inj hm).symm
        · replace hm := iF c7 hm
          refine r_iload S dX4_nearestTo_38 4 rfl ?_
          refine r_istore_n S dX4_nearestTo_40 rfl (Nat.le_of_ble_eq_true rfl) (lv' := [(2, .int x4_7), (0, .ref aT), (1, .int x1), (3, .int x3_7), (4, .int x4_7)]) rfl ?_
          refine r_aload_n S dX4_nearestTo_41 rfl 1 rfl ?_
          refine r_iload_n S dX4_nearestTo_42 rfl 2 rfl ?_
          refine r_iload S dX4_nearestTo_43 4 rfl ?_
          obtain ⟨r8, h_r8, hm⟩ := bS hm
          refine r_calliV S (c_X4_apart l0 D0 cI cJ cZ cY F aT aT_xs aT_ys aT_ws T_count T_xs T_ys x1 x4_7 _ h_r8) (gV u263 u185 u186 u46 u187) ok_X4_apart ⟨rfl, rfl⟩ ⟨Nat.le_of_ble_eq_true rfl, Nat.le_of_ble_eq_true rfl⟩ [0, 1, 2] [] rfl (wr := []) rfl rfl rfl (by decide) (ci := 4) (T := TX4) 0 rfl rfl (ws' := [(aT, .inr (4, [.int T_count, .ref aT_xs, .ref aT_ys, .ref aT_ws])), (aT_xs, .inl (cI, 24, .inl T_xs)), (aT_ys, .inl (cI, 24, .inl T_ys))]) rfl (As := [.int x1, .int x4_7]) (rest := []) rfl rfl (Nat.le_of_ble_eq_true rfl) dX4_nearestTo_45 ?_
          refine r_istore_n S dX4_nearestTo_48 rfl (Nat.le_of_ble_eq_true rfl) (lv' := [(3, .int r8), (2, .int x4_7), (0, .ref aT), (1, .int x1), (4, .int x4_7)]) rfl ?_
          refine r_iincc S dX4_nearestTo_49 4 rfl (c0 := (1 : Int32)) rfl rfl (Nat.le_of_ble_eq_true rfl) (lv' := [(4, .int (x4_7 + (1 : Int32))), (3, .int r8), (2, .int x4_7), (0, .ref aT), (1, .int x1)]) rfl ?_
          refine r_goto 7 S dX4_nearestTo_52 (by decide) ?_
          refine r_lv [3, 4, 2, 1, 0] (lv' := [(0, .ref aT), (1, .int x1), (2, .int x4_7), (3, .int r8), (4, .int (x4_7 + (1 : Int32)))]) rfl ?_
          exact hk7 (x4_7, r8, (x4_7 + (1 : Int32))) (Option.some.inj hm).symm
def wtX4_apartFromNearest : List Cond := Cond.code yX4_apartFromNearest cX4_apartFromNearest 3 (some .int) :: wsL_law
theorem ok_X4_apartFromNearest : CallOK yX4_apartFromNearest wtX4_apartFromNearest RX4 1 3 := ⟨⟨_, _, _, rfl⟩, rfl, ⟨by decide +kernel, by decide +kernel⟩, by decide +kernel⟩
set_option maxRecDepth 100000 in
set_option maxHeartbeats 4000000 in
theorem c_X4_apartFromNearest (l0 : Launch) (D0 : va_G) (cI cJ cZ cY : ClassId) (F : Nat) (aT aT_xs aT_ys aT_ws : Nat) (T_count : Int32) (T_xs : Nat → Int32) (T_ys : Nat → Int32) (x1 : Int32) (res : Int32) (hm : mX4_apartFromNearest F x1 T_count T_xs T_ys = some res) : Ci D0 [(cI, .int), (cJ, .long), (cZ, .boolean), (cY, .array .int)] l0 yX4_apartFromNearest wtX4_apartFromNearest ({ frames := 3, cells := 0, slots := 0, locals := 71 }) [.ref aT, .int x1] (res) [(aT, .inr (4, [.int T_count, .ref aT_xs, .ref aT_ys, .ref aT_ws])), (aT_xs, .inl (cI, 24, .inl T_xs)), (aT_ys, .inl (cI, 24, .inl T_ys))] [(aT, .inr (4, [.int T_count, .ref aT_xs, .ref aT_ys, .ref aT_ws])), (aT_xs, .inl (cI, 24, .inl T_xs)), (aT_ys, .inl (cI, 24, .inl T_ys))] := by
  refine Ci.ofi cX4_apartFromNearest 3 (own := RX4) (by decide +kernel) rfl rfl (Nat.le_of_ble_eq_true rfl) ?_
  intro X S hR0
  have hR : ∀ (r9 : Int32) (pc : Nat) (lv : List (Nat × Value)), some r9 = some res → decode cX4_apartFromNearest pc = .ok (.ireturn, 1) → G X pc lv [.int (r9)] [(aT, .inr (4, [.int T_count, .ref aT_xs, .ref aT_ys, .ref aT_ws])), (aT_xs, .inl (cI, 24, .inl T_xs)), (aT_ys, .inl (cI, 24, .inl T_ys))] := fun r9 pc lv h9 hd => by cases h9; exact hR0 pc lv hd
  show G X 0 [(0, .ref aT), (1, .int x1)] [] [(aT, .inr (4, [.int T_count, .ref aT_xs, .ref aT_ys, .ref aT_ws])), (aT_xs, .inl (cI, 24, .inl T_xs)), (aT_ys, .inl (cI, 24, .inl T_ys))]
  unfold mX4_apartFromNearest at hm
  refine r_aload_n S dX4_apartFromNearest_0 rfl 0 rfl ?_
  refine r_iload_n S dX4_apartFromNearest_1 rfl 1 rfl ?_
  obtain ⟨r1, h_r1, hm⟩ := bS hm
  refine r_calliV S (c_X4_nearestTo l0 D0 cI cJ cZ cY F aT aT_xs aT_ys aT_ws T_count T_xs T_ys x1 _ h_r1) (gV u306 u299 u300 u46 u301) ok_X4_nearestTo ⟨rfl, rfl⟩ ⟨Nat.le_of_ble_eq_true rfl, Nat.le_of_ble_eq_true rfl⟩ [0, 1, 2] [] rfl (wr := []) rfl rfl rfl (by decide) (ci := 4) (T := TX4) 0 rfl rfl (ws' := [(aT, .inr (4, [.int T_count, .ref aT_xs, .ref aT_ys, .ref aT_ws])), (aT_xs, .inl (cI, 24, .inl T_xs)), (aT_ys, .inl (cI, 24, .inl T_ys))]) rfl (As := [.int x1]) (rest := []) rfl rfl (Nat.le_of_ble_eq_true rfl) dX4_apartFromNearest_2 ?_
  refine r_istore_n S dX4_apartFromNearest_5 rfl (Nat.le_of_ble_eq_true rfl) (lv' := [(2, .int r1), (0, .ref aT), (1, .int x1)]) rfl ?_
  refine r_iload_n S dX4_apartFromNearest_6 rfl 0 rfl ?_
  refine r_iconst (v := (-1 : Int32)) S dX4_apartFromNearest_7 rfl ?_
  refine r_icmp_ne 15 S dX4_apartFromNearest_8 (by decide) (fun c2 => ?_) (fun c2 => ?_)
  · replace hm := iF c2 hm
    refine r_aload_n S dX4_apartFromNearest_15 rfl 1 rfl ?_
    refine r_iload_n S dX4_apartFromNearest_16 rfl 2 rfl ?_
    refine r_iload_n S dX4_apartFromNearest_17 rfl 0 rfl ?_
    obtain ⟨r3, h_r3, hm⟩ := bS hm
    refine r_calliV S (c_X4_apart l0 D0 cI cJ cZ cY F aT aT_xs aT_ys aT_ws T_count T_xs T_ys x1 r1 _ h_r3) (gV u263 u185 u186 u46 u187) ok_X4_apart ⟨rfl, rfl⟩ ⟨Nat.le_of_ble_eq_true rfl, Nat.le_of_ble_eq_true rfl⟩ [0, 1, 2] [] rfl (wr := []) rfl rfl rfl (by decide) (ci := 4) (T := TX4) 0 rfl rfl (ws' := [(aT, .inr (4, [.int T_count, .ref aT_xs, .ref aT_ys, .ref aT_ws])), (aT_xs, .inl (cI, 24, .inl T_xs)), (aT_ys, .inl (cI, 24, .inl T_ys))]) rfl (As := [.int x1, .int r1]) (rest := []) rfl rfl (Nat.le_of_ble_eq_true rfl) dX4_apartFromNearest_18 ?_
    exact hR r3 _ _ hm dX4_apartFromNearest_21
  · replace hm := iT c2 hm
    refine r_iconst (v := (-1 : Int32)) S dX4_apartFromNearest_11 rfl ?_
    refine r_goto 21 S dX4_apartFromNearest_12 (by decide) ?_
    exact hR (-1 : Int32) _ _ hm dX4_apartFromNearest_21
def wtX4_heaviestOf : List Cond := Cond.code yX4_heaviestOf cX4_heaviestOf 5 (some .int) :: wsL_law
theorem ok_X4_heaviestOf : CallOK yX4_heaviestOf wtX4_heaviestOf RX4 1 5 := ⟨⟨_, _, _, rfl⟩, rfl, ⟨by decide +kernel, by decide +kernel⟩, by decide +kernel⟩
set_option maxRecDepth 100000 in
set_option maxHeartbeats 4000000 in
theorem c_X4_heaviestOf (l0 : Launch) (D0 : va_G) (cI cJ cZ cY : ClassId) (F : Nat) (aT aT_xs aT_ys aT_ws : Nat) (T_count : Int32) (T_ws : Nat → Int32) (x1 : Int32) (res : Int32) (hm : mX4_heaviestOf F x1 T_count T_ws = some res) : Ci D0 [(cI, .int), (cJ, .long), (cZ, .boolean), (cY, .array .int)] l0 yX4_heaviestOf wtX4_heaviestOf ({ frames := 1, cells := 0, slots := 0, locals := 21 }) [.ref aT, .int x1] (res) [(aT, .inr (4, [.int T_count, .ref aT_xs, .ref aT_ys, .ref aT_ws])), (aT_ws, .inl (cI, 24, .inl T_ws))] [(aT, .inr (4, [.int T_count, .ref aT_xs, .ref aT_ys, .ref aT_ws])), (aT_ws, .inl (cI, 24, .inl T_ws))] := by
  refine Ci.ofi cX4_heaviestOf 5 (own := RX4) (by decide +kernel) rfl rfl (Nat.le_of_ble_eq_true rfl) ?_
  intro X S hR0
  have hR : ∀ (r9 : Int32) (pc : Nat) (lv : List (Nat × Value)), some r9 = some res → decode cX4_heaviestOf pc = .ok (.ireturn, 1) → G X pc lv [.int (r9)] [(aT, .inr (4, [.int T_count, .ref aT_xs, .ref aT_ys, .ref aT_ws])), (aT_ws, .inl (cI, 24, .inl T_ws))] := fun r9 pc lv h9 hd => by cases h9; exact hR0 pc lv hd
  show G X 0 [(0, .ref aT), (1, .int x1)] [] [(aT, .inr (4, [.int T_count, .ref aT_xs, .ref aT_ys, .ref aT_ws])), (aT_ws, .inl (cI, 24, .inl T_ws))]
  unfold mX4_heaviestOf at hm
  refine r_iconst (v := (-1 : Int32)) S dX4_heaviestOf_0 rfl ?_
  refine r_istore_n S dX4_heaviestOf_1 rfl (Nat.le_of_ble_eq_true rfl) (lv' := [(2, .int (-1 : Int32)), (0, .ref aT), (1, .int x1)]) rfl ?_
  refine r_iconst (v := (0 : Int32)) S dX4_heaviestOf_2 rfl ?_
  refine r_istore_n S dX4_heaviestOf_3 rfl (Nat.le_of_ble_eq_true rfl) (lv' := [(3, .int (0 : Int32)), (2, .int (-1 : Int32)), (0, .ref aT), (1, .int x1)]) rfl ?_
  refine r_iconst (v := (0 : Int32)) S dX4_heaviestOf_4 rfl ?_
  refine r_istore S dX4_heaviestOf_5 (Nat.le_of_ble_eq_true rfl) (lv' := [(4, .int (0 : Int32)), (3, .int (0 : Int32)), (2, .int (-1 : Int32)), (0, .ref aT), (1, .int x1)]) rfl ?_
  have hR7 : ∀ (r9 : Int32) (pc : Nat) (lv : List (Nat × Value)), r9 = res → decode cX4_heaviestOf pc = .ok (.ireturn, 1) → G X pc lv [.int (r9)] [(aT, .inr (4, [.int T_count, .ref aT_xs, .ref aT_ys, .ref aT_ws])), (aT_ws, .inl (cI, 24, .inl T_ws))] := fun r9 pc lv h9 hd => hR r9 pc lv (congrArg some h9) hd
  refine r_lv [3, 4, 2, 1, 0] (lv' := [(0, .ref aT), (1, .int x1), (2, .int (-1 : Int32)), (3, .int (0 : Int32)), (4, .int (0 : Int32))]) rfl ?_
  refine loopG (r0 := res) (Gd := fun s9 => G X 7 [(0, .ref aT), (1, .int x1), (2, .int s9.1), (3, .int s9.2.1), (4, .int s9.2.2)] [] [(aT, .inr (4, [.int T_count, .ref aT_xs, .ref aT_ys, .ref aT_ws])), (aT_ws, .inl (cI, 24, .inl T_ws))]) ?_ _ _ hm
  rintro ⟨x2_7, x3_7, x4_7⟩ b7 hm hk7 hr7
  replace hm : mX4_heaviestOf_b7 F x1 T_count T_ws x2_7 x3_7 x4_7 = some b7 := hm
  unfold mX4_heaviestOf_b7 at hm
  show G X 7 [(0, .ref aT), (1, .int x1), (2, .int x2_7), (3, .int x3_7), (4, .int x4_7)] [] [(aT, .inr (4, [.int T_count, .ref aT_xs, .ref aT_ys, .ref aT_ws])), (aT_ws, .inl (cI, 24, .inl T_ws))]
  refine r_iload S dX4_heaviestOf_7 4 rfl ?_
  refine r_aload_n S dX4_heaviestOf_9 rfl 0 rfl ?_
  refine r_get (T := TX4) (ci := 4) S (tlA inlX4) rfl 0 rfl 0 (Nat.le_of_ble_eq_true rfl) (tl u67) rfl dX4_heaviestOf_10 ?_
  refine r_icmp_ge 53 S dX4_heaviestOf_13 (by decide) (fun c2 => ?_) (fun c2 => ?_)
  · replace hm := iT c2 hm
    refine r_iload_n S dX4_heaviestOf_53 rfl 2 rfl ?_
    exact hR7 x2_7 _ _ (hr7 _ (Option.some.inj hm).symm) dX4_heaviestOf_54
  · replace hm := iF c2 hm
    refine r_iload_n S dX4_heaviestOf_16 rfl 1 rfl ?_
    refine r_iload S dX4_heaviestOf_17 4 rfl ?_
    obtain ⟨r3, h_r3, hm⟩ := bS hm
    refine r_callzS S (c_X6_has l0 D0 cI cJ cZ cY F x1 x4_7 _ h_r3) (gS u249 u197 u198 u199) ok_X6_has ⟨rfl, rfl⟩ ⟨Nat.le_of_ble_eq_true rfl, Nat.le_of_ble_eq_true rfl⟩ [] [0, 1] rfl (wr := [(aT, .inr (4, [.int T_count, .ref aT_xs, .ref aT_ys, .ref aT_ws])), (aT_ws, .inl (cI, 24, .inl T_ws))]) rfl rfl rfl (by decide) (ws' := [(aT, .inr (4, [.int T_count, .ref aT_xs, .ref aT_ys, .ref aT_ws])), (aT_ws, .inl (cI, 24, .inl T_ws))]) rfl (As := [.int x1, .int x4_7]) (rest := []) rfl rfl (Nat.le_of_ble_eq_true rfl) dX4_heaviestOf_19 (fun hz_r3 => ?_)
    refine r_if_eq 47 S dX4_heaviestOf_22 (by decide) (fun c4 => ?_) (fun c4 => ?_)
    · replace hm := iT c4 hm
      refine r_iincc S dX4_heaviestOf_47 4 rfl (c0 := (1 : Int32)) rfl rfl (Nat.le_of_ble_eq_true rfl) (lv' := [(4, .int (x4_7 + (1 : Int32))), (0, .ref aT), (1, .int x1), (2, .int x2_7), (3, .int x3_7)]) rfl ?_
      refine r_goto 7 S dX4_heaviestOf_50 (by decide) ?_
      refine r_lv [1, 2, 3, 4, 0] (lv' := [(0, .ref aT), (1, .int x1), (2, .int x2_7), (3, .int x3_7), (4, .int (x4_7 + (1 : Int32)))]) rfl ?_
      exact hk7 (x2_7, x3_7, (x4_7 + (1 : Int32))) (Option.some.inj hm).symm
    · replace hm := iF c4 hm
      refine r_aload_n S dX4_heaviestOf_25 rfl 0 rfl ?_
      refine r_get (T := TX4) (ci := 4) S (tlA inlX4) rfl 0 rfl 3 (Nat.le_of_ble_eq_true rfl) (tl u70) rfl dX4_heaviestOf_26 ?_
      refine r_iload S dX4_heaviestOf_29 4 rfl ?_
      obtain ⟨v5, h_v5, hm⟩ := bS hm
      refine r_iald S h_v5 1 0 rfl rfl dX4_heaviestOf_31 ?_
      refine r_iload_n S dX4_heaviestOf_32 rfl 3 rfl ?_
      refine r_icmp_le 47 S dX4_heaviestOf_33 (by decide) (fun c6 => ?_) (fun c6 => ?_)
      · replace hm := iT c6 hm
        refine r_iincc S dX4_heaviestOf_47 4 rfl (c0 := (1 : Int32)) rfl rfl (Nat.le_of_ble_eq_true rfl) (lv' := [(4, .int (x4_7 + (1 : Int32))), (0, .ref aT), (1, .int x1), (2, .int x2_7), (3, .int x3_7)]) rfl ?_
        refine r_goto 7 S dX4_heaviestOf_50 (by decide) ?_
        refine r_lv [1, 2, 3, 4, 0] (lv' := [(0, .ref aT), (1, .int x1), (2, .int x2_7), (3, .int x3_7), (4, .int (x4_7 + (1 : Int32)))]) rfl ?_
        exact hk7 (x2_7, x3_7, (x4_7 + (1 : Int32))) (Option.some.inj hm).symm
      · replace hm := iF c6 hm
        refine r_iload S dX4_heaviestOf_36 4 rfl ?_
        refine r_istore_n S dX4_heaviestOf_38 rfl (Nat.le_of_ble_eq_true rfl) (lv' := [(2, .int x4_7), (0, .ref aT), (1, .int x1), (3, .int x3_7), (4, .int x4_7)]) rfl ?_
        refine r_aload_n S dX4_heaviestOf_39 rfl 1 rfl ?_
        refine r_get (T := TX4) (ci := 4) S (tlA inlX4) rfl 0 rfl 3 (Nat.le_of_ble_eq_true rfl) (tl u70) rfl dX4_heaviestOf_40 ?_
        refine r_iload S dX4_heaviestOf_43 4 rfl ?_
        obtain ⟨v7, h_v7, hm⟩ := bS hm
        refine r_iald S h_v7 1 0 rfl rfl dX4_heaviestOf_45 ?_
        refine r_istore_n S dX4_heaviestOf_46 rfl (Nat.le_of_ble_eq_true rfl) (lv' := [(3, .int v7), (2, .int x4_7), (0, .ref aT), (1, .int x1), (4, .int x4_7)]) rfl ?_
        refine r_iincc S dX4_heaviestOf_47 4 rfl (c0 := (1 : Int32)) rfl rfl (Nat.le_of_ble_eq_true rfl) (lv' := [(4, .int (x4_7 + (1 : Int32))), (3, .int v7), (2, .int x4_7), (0, .ref aT), (1, .int x1)]) rfl ?_
        refine r_goto 7 S dX4_heaviestOf_50 (by decide) ?_
        refine r_lv [3, 4, 2, 1, 0] (lv' := [(0, .ref aT), (1, .int x1), (2, .int x4_7), (3, .int v7), (4, .int (x4_7 + (1 : Int32)))]) rfl ?_
        exact hk7 (x4_7, v7, (x4_7 + (1 : Int32))) (Option.some.inj hm).symm
