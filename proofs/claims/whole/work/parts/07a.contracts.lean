def wtX6_first : List Cond := Cond.code yX6_first cX6_first 1 (some .int) :: wsL_law
theorem ok_X6_first : CallOK yX6_first wtX6_first RX6 1 1 := ⟨⟨_, _, _, rfl⟩, rfl, ⟨by decide +kernel, by decide +kernel⟩, by decide +kernel⟩
set_option maxRecDepth 100000 in
set_option maxHeartbeats 4000000 in
theorem c_X6_first (l0 : Launch) (D0 : va_G) (cI cJ cZ cY : ClassId) (F : Nat) (x0 : Int32) (res : Int32) (hm : mX6_first F x0 = some res) : Ci D0 [(cI, .int), (cJ, .long), (cZ, .boolean), (cY, .array .int)] l0 yX6_first wtX6_first ({ frames := 0, cells := 0, slots := 0, locals := 0 }) [.int x0] (res) [] [] := by
  refine Ci.ofi cX6_first 1 (own := RX6) (by decide +kernel) rfl rfl (Nat.le_of_ble_eq_true rfl) ?_
  intro X S hR0
  have hR : ∀ (r9 : Int32) (pc : Nat) (lv : List (Nat × Value)), some r9 = some res → decode cX6_first pc = .ok (.ireturn, 1) → G X pc lv [.int (r9)] [] := fun r9 pc lv h9 hd => by cases h9; exact hR0 pc lv hd
  show G X 0 [(0, .int x0)] [] []
  unfold mX6_first at hm
  refine r_iconst (v := (1 : Int32)) S dX6_first_0 rfl ?_
  refine r_iload_n S dX6_first_1 rfl 0 rfl ?_
  refine r_ishl S dX6_first_2 ?_
  refine r_iconst (v := (1 : Int32)) S dX6_first_3 rfl ?_
  refine r_isub S dX6_first_4 ?_
  exact hR (((1 : Int32) <<< (x0 &&& 31)) - (1 : Int32)) _ _ hm dX6_first_5
def wtX6_has : List Cond := Cond.code yX6_has cX6_has 2 (some .boolean) :: wsL_law
theorem ok_X6_has : CallOK yX6_has wtX6_has RX6 2 2 := ⟨⟨_, _, _, rfl⟩, rfl, ⟨by decide +kernel, by decide +kernel⟩, by decide +kernel⟩
set_option maxRecDepth 100000 in
set_option maxHeartbeats 4000000 in
theorem c_X6_has (l0 : Launch) (D0 : va_G) (cI cJ cZ cY : ClassId) (F : Nat) (x0 : Int32) (x1 : Int32) (res : Int32) (hm : mX6_has F x0 x1 = some res) : Cz D0 [(cI, .int), (cJ, .long), (cZ, .boolean), (cY, .array .int)] l0 yX6_has wtX6_has ({ frames := 0, cells := 0, slots := 0, locals := 0 }) [.int x0, .int x1] (res) [] [] := by
  refine Cz.ofz cX6_has 2 (own := RX6) (by decide +kernel) rfl rfl (Nat.le_of_ble_eq_true rfl) ?_
  intro X S hR0
  have hR : ∀ (r9 : Int32) (pc : Nat) (lv : List (Nat × Value)), some r9 = some res → decode cX6_has pc = .ok (.ireturn, 1) → (r9 = 0 ∨ r9 = 1) → G X pc lv [.int (r9)] [] := fun r9 pc lv h9 hd hz9 => by cases h9; exact hR0 pc lv hd hz9
  show G X 0 [(0, .int x0), (1, .int x1)] [] []
  unfold mX6_has at hm
  refine r_iload_n S dX6_has_0 rfl 0 rfl ?_
  refine r_iload_n S dX6_has_1 rfl 1 rfl ?_
  refine r_ishr S dX6_has_2 ?_
  refine r_iconst (v := (1 : Int32)) S dX6_has_3 rfl ?_
  refine r_iand S dX6_has_4 ?_
  refine r_if_eq 12 S dX6_has_5 (by decide) (fun c1 => ?_) (fun c1 => ?_)
  · replace hm := iT c1 hm
    refine r_iconst (v := (0 : Int32)) S dX6_has_12 rfl ?_
    exact hR (0 : Int32) _ _ hm dX6_has_13 (Or.inl rfl)
  · replace hm := iF c1 hm
    refine r_iconst (v := (1 : Int32)) S dX6_has_8 rfl ?_
    refine r_goto 13 S dX6_has_9 (by decide) ?_
    exact hR (1 : Int32) _ _ hm dX6_has_13 (Or.inr rfl)
def wtX5_countAhead : List Cond := Cond.code yX5_countAhead cX5_countAhead 6 (some .int) :: wsL_law
theorem ok_X5_countAhead : CallOK yX5_countAhead wtX5_countAhead RX5 2 6 := ⟨⟨_, _, _, rfl⟩, rfl, ⟨by decide +kernel, by decide +kernel⟩, by decide +kernel⟩
set_option maxRecDepth 100000 in
set_option maxHeartbeats 4000000 in
theorem c_X5_countAhead (l0 : Launch) (D0 : va_G) (cI cJ cZ cY : ClassId) (F : Nat) (aT aT_sets aT_weights aT_xs aT_ys aT_groupAt : Nat) (T_count : Int32) (T_weights : Nat → Int32) (x1 : Int32) (x2 : Int32) (res : Int32) (hm : mX5_countAhead F x1 x2 T_count T_weights = some res) : Ci D0 [(cI, .int), (cJ, .long), (cZ, .boolean), (cY, .array .int)] l0 yX5_countAhead wtX5_countAhead ({ frames := 1, cells := 0, slots := 0, locals := 21 }) [.ref aT, .int x1, .int x2] (res) [(aT, .inr (5, [.int T_count, .ref aT_sets, .ref aT_weights, .ref aT_xs, .ref aT_ys, .ref aT_groupAt])), (aT_weights, .inl (cI, 24, .inl T_weights))] [(aT, .inr (5, [.int T_count, .ref aT_sets, .ref aT_weights, .ref aT_xs, .ref aT_ys, .ref aT_groupAt])), (aT_weights, .inl (cI, 24, .inl T_weights))] := by
  refine Ci.ofi cX5_countAhead 6 (own := RX5) (by decide +kernel) rfl rfl (Nat.le_of_ble_eq_true rfl) ?_
  intro X S hR0
  have hR : ∀ (r9 : Int32) (pc : Nat) (lv : List (Nat × Value)), some r9 = some res → decode cX5_countAhead pc = .ok (.ireturn, 1) → G X pc lv [.int (r9)] [(aT, .inr (5, [.int T_count, .ref aT_sets, .ref aT_weights, .ref aT_xs, .ref aT_ys, .ref aT_groupAt])), (aT_weights, .inl (cI, 24, .inl T_weights))] := fun r9 pc lv h9 hd => by cases h9; exact hR0 pc lv hd
  show G X 0 [(0, .ref aT), (1, .int x1), (2, .int x2)] [] [(aT, .inr (5, [.int T_count, .ref aT_sets, .ref aT_weights, .ref aT_xs, .ref aT_ys, .ref aT_groupAt])), (aT_weights, .inl (cI, 24, .inl T_weights))]
  unfold mX5_countAhead at hm
  refine r_iconst (v := (0 : Int32)) S dX5_countAhead_0 rfl ?_
  refine r_istore_n S dX5_countAhead_1 rfl (Nat.le_of_ble_eq_true rfl) (lv' := [(3, .int (0 : Int32)), (0, .ref aT), (1, .int x1), (2, .int x2)]) rfl ?_
  refine r_iconst (v := (0 : Int32)) S dX5_countAhead_2 rfl ?_
  refine r_istore S dX5_countAhead_3 (Nat.le_of_ble_eq_true rfl) (lv' := [(4, .int (0 : Int32)), (3, .int (0 : Int32)), (0, .ref aT), (1, .int x1), (2, .int x2)]) rfl ?_
  have hR5 : ∀ (r9 : Int32) (pc : Nat) (lv : List (Nat × Value)), r9 = res → decode cX5_countAhead pc = .ok (.ireturn, 1) → G X pc lv [.int (r9)] [(aT, .inr (5, [.int T_count, .ref aT_sets, .ref aT_weights, .ref aT_xs, .ref aT_ys, .ref aT_groupAt])), (aT_weights, .inl (cI, 24, .inl T_weights))] := fun r9 pc lv h9 hd => hR r9 pc lv (congrArg some h9) hd
  refine r_lv [2, 3, 4, 1, 0] (lv' := [(0, .ref aT), (1, .int x1), (2, .int x2), (3, .int (0 : Int32)), (4, .int (0 : Int32))]) rfl ?_
  refine loopG (r0 := res) (Gd := fun s9 => G X 5 [(0, .ref aT), (1, .int x1), (2, .int x2), (3, .int s9.1), (4, .int s9.2)] [] [(aT, .inr (5, [.int T_count, .ref aT_sets, .ref aT_weights, .ref aT_xs, .ref aT_ys, .ref aT_groupAt])), (aT_weights, .inl (cI, 24, .inl T_weights))]) ?_ _ _ hm
  rintro ⟨x3_5, x4_5⟩ b5 hm hk5 hr5
  replace hm : mX5_countAhead_b5 F x1 x2 T_count T_weights x3_5 x4_5 = some b5 := hm
  unfold mX5_countAhead_b5 at hm
  show G X 5 [(0, .ref aT), (1, .int x1), (2, .int x2), (3, .int x3_5), (4, .int x4_5)] [] [(aT, .inr (5, [.int T_count, .ref aT_sets, .ref aT_weights, .ref aT_xs, .ref aT_ys, .ref aT_groupAt])), (aT_weights, .inl (cI, 24, .inl T_weights))]
  refine r_iload S dX5_countAhead_5 4 rfl ?_
  refine r_aload_n S dX5_countAhead_7 rfl 0 rfl ?_
  refine r_get (T := TX5) (ci := 5) S (tlA inlX5) rfl 0 rfl 0 (Nat.le_of_ble_eq_true rfl) (tl u78) rfl dX5_countAhead_8 ?_
  refine r_icmp_ge 82 S dX5_countAhead_11 (by decide) (fun c2 => ?_) (fun c2 => ?_)
  · replace hm := iT c2 hm
    refine r_iload_n S dX5_countAhead_82 rfl 3 rfl ?_
    exact hR5 x3_5 _ _ (hr5 _ (Option.some.inj hm).symm) dX5_countAhead_83
  · replace hm := iF c2 hm
    refine r_aload_n S dX5_countAhead_14 rfl 0 rfl ?_
    refine r_get (T := TX5) (ci := 5) S (tlA inlX5) rfl 0 rfl 2 (Nat.le_of_ble_eq_true rfl) (tl u80) rfl dX5_countAhead_15 ?_
    refine r_iload S dX5_countAhead_18 4 rfl ?_
    obtain ⟨v3, h_v3, hm⟩ := bS hm
    refine r_iald S h_v3 1 0 rfl rfl dX5_countAhead_20 ?_
    refine r_aload_n S dX5_countAhead_21 rfl 0 rfl ?_
    refine r_get (T := TX5) (ci := 5) S (tlA inlX5) rfl 0 rfl 2 (Nat.le_of_ble_eq_true rfl) (tl u80) rfl dX5_countAhead_22 ?_
    refine r_iload_n S dX5_countAhead_25 rfl 2 rfl ?_
    obtain ⟨v4, h_v4, hm⟩ := bS hm
    refine r_iald S h_v4 1 0 rfl rfl dX5_countAhead_26 ?_
    refine r_icmp_gt 52 S dX5_countAhead_27 (by decide) (fun c5 => ?_) (fun c5 => ?_)
    · replace hm := iT c5 hm
      refine r_iconst (v := (1 : Int32)) S dX5_countAhead_52 rfl ?_
      refine r_goto 57 S dX5_countAhead_53 (by decide) ?_
      refine r_istore S dX5_countAhead_57 (Nat.le_of_ble_eq_true rfl) (lv' := [(5, .int (1 : Int32)), (0, .ref aT), (1, .int x1), (2, .int x2), (3, .int x3_5), (4, .int x4_5)]) rfl ?_
      refine r_iload_n S dX5_countAhead_59 rfl 2 rfl ?_
      refine r_iload S dX5_countAhead_60 5 rfl ?_
      obtain ⟨r6, h_r6, hm⟩ := bS hm
      refine r_callzS S (c_X6_has l0 D0 cI cJ cZ cY F x1 x4_5 _ h_r6) (gS u663 u214 u215 u216) ok_X6_has ⟨rfl, rfl⟩ ⟨Nat.le_of_ble_eq_true rfl, Nat.le_of_ble_eq_true rfl⟩ [] [0, 1] rfl (wr := [(aT, .inr (5, [.int T_count, .ref aT_sets, .ref aT_weights, .ref aT_xs, .ref aT_ys, .ref aT_groupAt])), (aT_weights, .inl (cI, 24, .inl T_weights))]) rfl rfl rfl (by decide) (ws' := [(aT, .inr (5, [.int T_count, .ref aT_sets, .ref aT_weights, .ref aT_xs, .ref aT_ys, .ref aT_groupAt])), (aT_weights, .inl (cI, 24, .inl T_weights))]) rfl (As := [.int x1, .int x4_5]) (rest := []) rfl rfl (Nat.le_of_ble_eq_true rfl) dX5_countAhead_62 (fun hz_r6 => ?_)
      refine r_if_eq 76 S dX5_countAhead_65 (by decide) (fun c7 => ?_) (fun c7 => ?_)
      · replace hm := iT c7 hm
        refine r_iincc S dX5_countAhead_76 5 rfl (c0 := (1 : Int32)) rfl rfl (Nat.le_of_ble_eq_true rfl) (lv' := [(4, .int (x4_5 + (1 : Int32))), (5, .int (1 : Int32)), (0, .ref aT), (1, .int x1), (2, .int x2), (3, .int x3_5)]) rfl ?_
        refine r_goto 5 S dX5_countAhead_79 (by decide) ?_
        refine r_lv [2, 3, 4, 5, 0] (lv' := [(0, .ref aT), (1, .int x1), (2, .int x2), (3, .int x3_5), (4, .int (x4_5 + (1 : Int32)))]) rfl ?_
        exact hk5 (x3_5, (x4_5 + (1 : Int32))) (Option.some.inj hm).symm
      · replace hm := iF c7 hm
        refine r_iload S dX5_countAhead_68 0 rfl ?_
        refine r_if_eq 76 S dX5_countAhead_70 (by decide) (fun c8 => ?_) (fun c8 => ?_)
        · replace hm := iT c8 hm
          refine r_iincc S dX5_countAhead_76 5 rfl (c0 := (1 : Int32)) rfl rfl (Nat.le_of_ble_eq_true rfl) (lv' := [(4, .int (x4_5 + (1 : Int32))), (5, .int (1 : Int32)), (0, .ref aT), (1, .int x1), (2, .int x2), (3, .int x3_5)]) rfl ?_
          refine r_goto 5 S dX5_countAhead_79 (by decide) ?_
          refine r_lv [2, 3, 4, 5, 0] (lv' := [(0, .ref aT), (1, .int x1), (2, .int x2), (3, .int x3_5), (4, .int (x4_5 + (1 : Int32)))]) rfl ?_
          exact hk5 (x3_5, (x4_5 + (1 : Int32))) (Option.some.inj hm).symm
        · replace hm := iF c8 hm
          obtain ⟨v9, h_v9, hm⟩ := bS hm
          refine r_iincc S dX5_countAhead_73 4 rfl (c0 := (1 : Int32)) rfl (Option.some.inj h_v9) (Nat.le_of_ble_eq_true rfl) (lv' := [(3, .int v9), (5, .int (1 : Int32)), (0, .ref aT), (1, .int x1), (2, .int x2), (4, .int x4_5)]) rfl ?_
          refine r_iincc S dX5_countAhead_76 5 rfl (c0 := (1 : Int32)) rfl rfl (Nat.le_of_ble_eq_true rfl) (lv' := [(4, .int (x4_5 + (1 : Int32))), (3, .int v9), (5, .int (1 : Int32)), (0, .ref aT), (1, .int x1), (2, .int x2)]) rfl ?_
          refine r_goto 5 S dX5_countAhead_79 (by decide) ?_
          refine r_lv [3, 4, 5, 1, 0] (lv' := [(0, .ref aT), (1, .int x1), (2, .int x2), (3, .int v9), (4, .int (x4_5 + (1 : Int32)))]) rfl ?_
          exact hk5 (v9, (x4_5 + (1 : Int32))) (Option.some.inj hm).symm
    · replace hm := iF c5 hm
      refine r_aload_n S dX5_countAhead_30 rfl 0 rfl ?_
      refine r_get (T := TX5) (ci := 5) S (tlA inlX5) rfl 0 rfl 2 (Nat.le_of_ble_eq_true rfl) (tl u80) rfl dX5_countAhead_31 ?_
      refine r_iload S dX5_countAhead_34 4 rfl ?_
      obtain ⟨v10, h_v10, hm⟩ := bS hm
      refine r_iald S h_v10 1 0 rfl rfl dX5_countAhead_36 ?_
      refine r_aload_n S dX5_countAhead_37 rfl 0 rfl ?_
      refine r_get (T := TX5) (ci := 5) S (tlA inlX5) rfl 0 rfl 2 (Nat.le_of_ble_eq_true rfl) (tl u80) rfl dX5_countAhead_38 ?_
      refine r_iload_n S dX5_countAhead_41 rfl 2 rfl ?_
      obtain ⟨v11, h_v11, hm⟩ := bS hm
      refine r_iald S h_v11 1 0 rfl rfl dX5_countAhead_42 ?_
      refine r_icmp_ne 56 S dX5_countAhead_43 (by decide) (fun c12 => ?_) (fun c12 => ?_)
      · replace hm := iF c12 hm
        refine r_iconst (v := (0 : Int32)) S dX5_countAhead_56 rfl ?_
        refine r_istore S dX5_countAhead_57 (Nat.le_of_ble_eq_true rfl) (lv' := [(5, .int (0 : Int32)), (0, .ref aT), (1, .int x1), (2, .int x2), (3, .int x3_5), (4, .int x4_5)]) rfl ?_
        refine r_iload_n S dX5_countAhead_59 rfl 2 rfl ?_
        refine r_iload S dX5_countAhead_60 5 rfl ?_
        obtain ⟨r13, h_r13, hm⟩ := bS hm
        refine r_callzS S (c_X6_has l0 D0 cI cJ cZ cY F x1 x4_5 _ h_r13) (gS u663 u214 u215 u216) ok_X6_has ⟨rfl, rfl⟩ ⟨Nat.le_of_ble_eq_true rfl, Nat.le_of_ble_eq_true rfl⟩ [] [0, 1] rfl (wr := [(aT, .inr (5, [.int T_count, .ref aT_sets, .ref aT_weights, .ref aT_xs, .ref aT_ys, .ref aT_groupAt])), (aT_weights, .inl (cI, 24, .inl T_weights))]) rfl rfl rfl (by decide) (ws' := [(aT, .inr (5, [.int T_count, .ref aT_sets, .ref aT_weights, .ref aT_xs, .ref aT_ys, .ref aT_groupAt])), (aT_weights, .inl (cI, 24, .inl T_weights))]) rfl (As := [.int x1, .int x4_5]) (rest := []) rfl rfl (Nat.le_of_ble_eq_true rfl) dX5_countAhead_62 (fun hz_r13 => ?_)
        refine r_if_eq 76 S dX5_countAhead_65 (by decide) (fun c14 => ?_) (fun c14 => ?_)
        · replace hm := iT c14 hm
          refine r_iincc S dX5_countAhead_76 5 rfl (c0 := (1 : Int32)) rfl rfl (Nat.le_of_ble_eq_true rfl) (lv' := [(4, .int (x4_5 + (1 : Int32))), (5, .int (0 : Int32)), (0, .ref aT), (1, .int x1), (2, .int x2), (3, .int x3_5)]) rfl ?_
          refine r_goto 5 S dX5_countAhead_79 (by decide) ?_
          refine r_lv [2, 3, 4, 5, 0] (lv' := [(0, .ref aT), (1, .int x1), (2, .int x2), (3, .int x3_5), (4, .int (x4_5 + (1 : Int32)))]) rfl ?_
          exact hk5 (x3_5, (x4_5 + (1 : Int32))) (Option.some.inj hm).symm
        · replace hm := iF c14 hm
          refine r_iload S dX5_countAhead_68 0 rfl ?_
          refine r_if_eq 76 S dX5_countAhead_70 (by decide) (fun c15 => ?_) (fun c15 => ?_)
          · replace hm := iT c15 hm
            refine r_iincc S dX5_countAhead_76 5 rfl (c0 := (1 : Int32)) rfl rfl (Nat.le_of_ble_eq_true rfl) (lv' := [(4, .int (x4_5 + (1 : Int32))), (5, .int (0 : Int32)), (0, .ref aT), (1, .int x1), (2, .int x2), (3, .int x3_5)]) rfl ?_
            refine r_goto 5 S dX5_countAhead_79 (by decide) ?_
            refine r_lv [2, 3, 4, 5, 0] (lv' := [(0, .ref aT), (1, .int x1), (2, .int x2), (3, .int x3_5), (4, .int (x4_5 + (1 : Int32)))]) rfl ?_
            exact hk5 (x3_5, (x4_5 + (1 : Int32))) (Option.some.inj hm).symm
          · replace hm := iF c15 hm
            obtain ⟨v16, h_v16, hm⟩ := bS hm
            refine r_iincc S dX5_countAhead_73 4 rfl (c0 := (1 : Int32)) rfl (Option.some.inj h_v16) (Nat.le_of_ble_eq_true rfl) (lv' := [(3, .int v16), (5, .int (0 : Int32)), (0, .ref aT), (1, .int x1), (2, .int x2), (4, .int x4_5)]) rfl ?_
            refine r_iincc S dX5_countAhead_76 5 rfl (c0 := (1 : Int32)) rfl rfl (Nat.le_of_ble_eq_true rfl) (lv' := [(4, .int (x4_5 + (1 : Int32))), (3, .int v16), (5, .int (0 : Int32)), (0, .ref aT), (1, .int x1), (2, .int x2)]) rfl ?_
            refine r_goto 5 S dX5_countAhead_79 (by decide) ?_
            refine r_lv [3, 4, 5, 1, 0] (lv' := [(0, .ref aT), (1, .int x1), (2, .int x2), (3, .int v16), (4, .int (x4_5 + (1 : Int32)))]) rfl ?_
            exact hk5 (v16, (x4_5 + (1 : Int32))) (Option.some.inj hm).symm
      · replace hm := iT c12 hm
        refine r_iload S dX5_countAhead_46 4 rfl ?_
        refine r_iload_n S dX5_countAhead_48 rfl 2 rfl ?_
        refine r_icmp_ge 56 S dX5_countAhead_49 (by decide) (fun c17 => ?_) (fun c17 => ?_)
        · replace hm := iT c17 hm
          refine r_iconst (v := (0 : Int32)) S dX5_countAhead_56 rfl ?_
          refine r_istore S dX5_countAhead_57 (Nat.le_of_ble_eq_true rfl) (lv' := [(5, .int (0 : Int32)), (0, .ref aT), (1, .int x1), (2, .int x2), (3, .int x3_5), (4, .int x4_5)]) rfl ?_
          refine r_iload_n S dX5_countAhead_59 rfl 2 rfl ?_
          refine r_iload S dX5_countAhead_60 5 rfl ?_
          obtain ⟨r18, h_r18, hm⟩ := bS hm
          refine r_callzS S (c_X6_has l0 D0 cI cJ cZ cY F x1 x4_5 _ h_r18) (gS u663 u214 u215 u216) ok_X6_has ⟨rfl, rfl⟩ ⟨Nat.le_of_ble_eq_true rfl, Nat.le_of_ble_eq_true rfl⟩ [] [0, 1] rfl (wr := [(aT, .inr (5, [.int T_count, .ref aT_sets, .ref aT_weights, .ref aT_xs, .ref aT_ys, .ref aT_groupAt])), (aT_weights, .inl (cI, 24, .inl T_weights))]) rfl rfl rfl (by decide) (ws' := [(aT, .inr (5, [.int T_count, .ref aT_sets, .ref aT_weights, .ref aT_xs, .ref aT_ys, .ref aT_groupAt])), (aT_weights, .inl (cI, 24, .inl T_weights))]) rfl (As := [.int x1, .int x4_5]) (rest := []) rfl rfl (Nat.le_of_ble_eq_true rfl) dX5_countAhead_62 (fun hz_r18 => ?_)
          refine r_if_eq 76 S dX5_countAhead_65 (by decide) (fun c19 => ?_) (fun c19 => ?_)
          · replace hm := iT c19 hm
            refine r_iincc S dX5_countAhead_76 5 rfl (c0 := (1 : Int32)) rfl rfl (Nat.le_of_ble_eq_true rfl) (lv' := [(4, .int (x4_5 + (1 : Int32))), (5, .int (0 : Int32)), (0, .ref aT), (1, .int x1), (2, .int x2), (3, .int x3_5)]) rfl ?_
            refine r_goto 5 S dX5_countAhead_79 (by decide) ?_
            refine r_lv [2, 3, 4, 5, 0] (lv' := [(0, .ref aT), (1, .int x1), (2, .int x2), (3, .int x3_5), (4, .int (x4_5 + (1 : Int32)))]) rfl ?_
            exact hk5 (x3_5, (x4_5 + (1 : Int32))) (Option.some.inj hm).symm
          · replace hm := iF c19 hm
            refine r_iload S dX5_countAhead_68 0 rfl ?_
            refine r_if_eq 76 S dX5_countAhead_70 (by decide) (fun c20 => ?_) (fun c20 => ?_)
            · replace hm := iT c20 hm
              refine r_iincc S dX5_countAhead_76 5 rfl (c0 := (1 : Int32)) rfl rfl (Nat.le_of_ble_eq_true rfl) (lv' := [(4, .int (x4_5 + (1 : Int32))), (5, .int (0 : Int32)), (0, .ref aT), (1, .int x1), (2, .int x2), (3, .int x3_5)]) rfl ?_
              refine r_goto 5 S dX5_countAhead_79 (by decide) ?_
              refine r_lv [2, 3, 4, 5, 0] (lv' := [(0, .ref aT), (1, .int x1), (2, .int x2), (3, .int x3_5), (4, .int (x4_5 + (1 : Int32)))]) rfl ?_
              exact hk5 (x3_5, (x4_5 + (1 : Int32))) (Option.some.inj hm).symm
            · replace hm := iF c20 hm
              obtain ⟨v21, h_v21, hm⟩ := bS hm
              refine r_iincc S dX5_countAhead_73 4 rfl (c0 := (1 : Int32)) rfl (Option.some.inj h_v21) (Nat.le_of_ble_eq_true rfl) (lv' := [(3, .int v21), (5, .int (0 : Int32)), (0, .ref aT), (1, .int x1), (2, .int x2), (4, .int x4_5)]) rfl ?_
              refine r_iincc S dX5_countAhead_76 5 rfl (c0 := (1 : Int32)) rfl rfl (Nat.le_of_ble_eq_true rfl) (lv' := [(4, .int (x4_5 + (1 : Int32))), (3, .int v21), (5, .int (0 : Int32)), (0, .ref aT), (1, .int x1), (2, .int x2)]) rfl ?_
              refine r_goto 5 S dX5_countAhead_79 (by decide) ?_
              refine r_lv [3, 4, 5, 1, 0] (lv' := [(0, .ref aT), (1, .int x1), (2, .int x2), (3, .int v21), (4, .int (x4_5 + (1 : Int32)))]) rfl ?_
              exact hk5 (v21, (x4_5 + (1 : Int32))) (Option.some.inj hm).symm
        · replace hm := iF c17 hm
          refine r_iconst (v := (1 : Int32)) S dX5_countAhead_52 rfl ?_
          refine r_goto 57 S dX5_countAhead_53 (by decide) ?_
          refine r_istore S dX5_countAhead_57 (Nat.le_of_ble_eq_true rfl) (lv' := [(5, .int (1 : Int32)), (0, .ref aT), (1, .int x1), (2, .int x2), (3, .int x3_5), (4, .int x4_5)]) rfl ?_
          refine r_iload_n S dX5_countAhead_59 rfl 2 rfl ?_
          refine r_iload S dX5_countAhead_60 5 rfl ?_
          obtain ⟨r22, h_r22, hm⟩ := bS hm
          refine r_callzS S (c_X6_has l0 D0 cI cJ cZ cY F x1 x4_5 _ h_r22) (gS u663 u214 u215 u216) ok_X6_has ⟨rfl, rfl⟩ ⟨Nat.le_of_ble_eq_true rfl, Nat.le_of_ble_eq_true rfl⟩ [] [0, 1] rfl (wr := [(aT, .inr (5, [.int T_count, .ref aT_sets, .ref aT_weights, .ref aT_xs, .ref aT_ys, .ref aT_groupAt])), (aT_weights, .inl (cI, 24, .inl T_weights))]) rfl rfl rfl (by decide) (ws' := [(aT, .inr (5, [.int T_count, .ref aT_sets, .ref aT_weights, .ref aT_xs, .ref aT_ys, .ref aT_groupAt])), (aT_weights, .inl (cI, 24, .inl T_weights))]) rfl (As := [.int x1, .int x4_5]) (rest := []) rfl rfl (Nat.le_of_ble_eq_true rfl) dX5_countAhead_62 (fun hz_r22 => ?_)
          refine r_if_eq 76 S dX5_countAhead_65 (by decide) (fun c23 => ?_) (fun c23 => ?_)
          · replace hm := iT c23 hm
            refine r_iincc S dX5_countAhead_76 5 rfl (c0 := (1 : Int32)) rfl rfl (Nat.le_of_ble_eq_true rfl) (lv' := [(4, .int (x4_5 + (1 : Int32))), (5, .int (1 : Int32)), (0, .ref aT), (1, .int x1), (2, .int x2), (3, .int x3_5)]) rfl ?_
            refine r_goto 5 S dX5_countAhead_79 (by decide) ?_
            refine r_lv [2, 3, 4, 5, 0] (lv' := [(0, .ref aT), (1, .int x1), (2, .int x2), (3, .int x3_5), (4, .int (x4_5 + (1 : Int32)))]) rfl ?_
            exact hk5 (x3_5, (x4_5 + (1 : Int32))) (Option.some.inj hm).symm
          · replace hm := iF c23 hm
            refine r_iload S dX5_countAhead_68 0 rfl ?_
            refine r_if_eq 76 S dX5_countAhead_70 (by decide) (fun c24 => ?_) (fun c24 => ?_)
            · replace hm := iT c24 hm
              refine r_iincc S dX5_countAhead_76 5 rfl (c0 := (1 : Int32)) rfl rfl (Nat.le_of_ble_eq_true rfl) (lv' := [(4, .int (x4_5 + (1 : Int32))), (5, .int (1 : Int32)), (0, .ref aT), (1, .int x1), (2, .int x2), (3, .int x3_5)]) rfl ?_
              refine r_goto 5 S dX5_countAhead_79 (by decide) ?_
              refine r_lv [2, 3, 4, 5, 0] (lv' := [(0, .ref aT), (1, .int x1), (2, .int x2), (3, .int x3_5), (4, .int (x4_5 + (1 : Int32)))]) rfl ?_
              exact hk5 (x3_5, (x4_5 + (1 : Int32))) (Option.some.inj hm).symm
            · replace hm := iF c24 hm
              obtain ⟨v25, h_v25, hm⟩ := bS hm
              refine r_iincc S dX5_countAhead_73 4 rfl (c0 := (1 : Int32)) rfl (Option.some.inj h_v25) (Nat.le_of_ble_eq_true rfl) (lv' := [(3, .int v25), (5, .int (1 : Int32)), (0, .ref aT), (1, .int x1), (2, .int x2), (4, .int x4_5)]) rfl ?_
              refine r_iincc S dX5_countAhead_76 5 rfl (c0 := (1 : Int32)) rfl rfl (Nat.le_of_ble_eq_true rfl) (lv' := [(4, .int (x4_5 + (1 : Int32))), (3, .int v25), (5, .int (1 : Int32)), (0, .ref aT), (1, .int x1), (2, .int x2)]) rfl ?_
              refine r_goto 5 S dX5_countAhead_79 (by decide) ?_
              refine r_lv [3, 4, 5, 1, 0] (lv' := [(0, .ref aT), (1, .int x1), (2, .int x2), (3, .int v25), (4, .int (x4_5 + (1 : Int32)))]) rfl ?_
              exact hk5 (v25, (x4_5 + (1 : Int32))) (Option.some.inj hm).symm
def wtX5_heaviest : List Cond := Cond.code yX5_heaviest cX5_heaviest 4 (some .int) :: wsL_law
theorem ok_X5_heaviest : CallOK yX5_heaviest wtX5_heaviest RX5 2 4 := ⟨⟨_, _, _, rfl⟩, rfl, ⟨by decide +kernel, by decide +kernel⟩, by decide +kernel⟩
set_option maxRecDepth 100000 in
set_option maxHeartbeats 4000000 in
theorem c_X5_heaviest (l0 : Launch) (D0 : va_G) (cI cJ cZ cY : ClassId) (F : Nat) (aT aT_sets aT_weights aT_xs aT_ys aT_groupAt : Nat) (T_count : Int32) (T_weights : Nat → Int32) (x1 : Int32) (x2 : Int32) (res : Int32) (hm : mX5_heaviest F x1 x2 T_count T_weights = some res) : Ci D0 [(cI, .int), (cJ, .long), (cZ, .boolean), (cY, .array .int)] l0 yX5_heaviest wtX5_heaviest ({ frames := 2, cells := 0, slots := 0, locals := 46 }) [.ref aT, .int x1, .int x2] (res) [(aT, .inr (5, [.int T_count, .ref aT_sets, .ref aT_weights, .ref aT_xs, .ref aT_ys, .ref aT_groupAt])), (aT_weights, .inl (cI, 24, .inl T_weights))] [(aT, .inr (5, [.int T_count, .ref aT_sets, .ref aT_weights, .ref aT_xs, .ref aT_ys, .ref aT_groupAt])), (aT_weights, .inl (cI, 24, .inl T_weights))] := by
  refine Ci.ofi cX5_heaviest 4 (own := RX5) (by decide +kernel) rfl rfl (Nat.le_of_ble_eq_true rfl) ?_
  intro X S hR0
  have hR : ∀ (r9 : Int32) (pc : Nat) (lv : List (Nat × Value)), some r9 = some res → decode cX5_heaviest pc = .ok (.ireturn, 1) → G X pc lv [.int (r9)] [(aT, .inr (5, [.int T_count, .ref aT_sets, .ref aT_weights, .ref aT_xs, .ref aT_ys, .ref aT_groupAt])), (aT_weights, .inl (cI, 24, .inl T_weights))] := fun r9 pc lv h9 hd => by cases h9; exact hR0 pc lv hd
  show G X 0 [(0, .ref aT), (1, .int x1), (2, .int x2)] [] [(aT, .inr (5, [.int T_count, .ref aT_sets, .ref aT_weights, .ref aT_xs, .ref aT_ys, .ref aT_groupAt])), (aT_weights, .inl (cI, 24, .inl T_weights))]
  unfold mX5_heaviest at hm
  refine r_iconst (v := (0 : Int32)) S dX5_heaviest_0 rfl ?_
  refine r_istore_n S dX5_heaviest_1 rfl (Nat.le_of_ble_eq_true rfl) (lv' := [(3, .int (0 : Int32)), (0, .ref aT), (1, .int x1), (2, .int x2)]) rfl ?_
  have hR2 : ∀ (r9 : Int32) (pc : Nat) (lv : List (Nat × Value)), r9 = res → decode cX5_heaviest pc = .ok (.ireturn, 1) → G X pc lv [.int (r9)] [(aT, .inr (5, [.int T_count, .ref aT_sets, .ref aT_weights, .ref aT_xs, .ref aT_ys, .ref aT_groupAt])), (aT_weights, .inl (cI, 24, .inl T_weights))] := fun r9 pc lv h9 hd => hR r9 pc lv (congrArg some h9) hd
  refine r_lv [1, 2, 3, 0] (lv' := [(0, .ref aT), (1, .int x1), (2, .int x2), (3, .int (0 : Int32))]) rfl ?_
  refine loopG (r0 := res) (Gd := fun s9 => G X 2 [(0, .ref aT), (1, .int x1), (2, .int x2), (3, .int s9)] [] [(aT, .inr (5, [.int T_count, .ref aT_sets, .ref aT_weights, .ref aT_xs, .ref aT_ys, .ref aT_groupAt])), (aT_weights, .inl (cI, 24, .inl T_weights))]) ?_ _ _ hm
  intro x3_2 b2 hm hk2 hr2
  replace hm : mX5_heaviest_b2 F x1 x2 T_count T_weights x3_2 = some b2 := hm
  unfold mX5_heaviest_b2 at hm
  show G X 2 [(0, .ref aT), (1, .int x1), (2, .int x2), (3, .int x3_2)] [] [(aT, .inr (5, [.int T_count, .ref aT_sets, .ref aT_weights, .ref aT_xs, .ref aT_ys, .ref aT_groupAt])), (aT_weights, .inl (cI, 24, .inl T_weights))]
  refine r_iload_n S dX5_heaviest_2 rfl 3 rfl ?_
  refine r_aload_n S dX5_heaviest_3 rfl 0 rfl ?_
  refine r_get (T := TX5) (ci := 5) S (tlA inlX5) rfl 0 rfl 0 (Nat.le_of_ble_eq_true rfl) (tl u78) rfl dX5_heaviest_4 ?_
  refine r_icmp_ge 36 S dX5_heaviest_7 (by decide) (fun c2 => ?_) (fun c2 => ?_)
  · replace hm := iT c2 hm
    refine r_iconst (v := (-1 : Int32)) S dX5_heaviest_36 rfl ?_
    exact hR2 (-1 : Int32) _ _ (hr2 _ (Option.some.inj hm).symm) dX5_heaviest_37
  · replace hm := iF c2 hm
    refine r_iload_n S dX5_heaviest_10 rfl 1 rfl ?_
    refine r_iload_n S dX5_heaviest_11 rfl 3 rfl ?_
    obtain ⟨r3, h_r3, hm⟩ := bS hm
    refine r_callzS S (c_X6_has l0 D0 cI cJ cZ cY F x1 x3_2 _ h_r3) (gS u663 u214 u215 u216) ok_X6_has ⟨rfl, rfl⟩ ⟨Nat.le_of_ble_eq_true rfl, Nat.le_of_ble_eq_true rfl⟩ [] [0, 1] rfl (wr := [(aT, .inr (5, [.int T_count, .ref aT_sets, .ref aT_weights, .ref aT_xs, .ref aT_ys, .ref aT_groupAt])), (aT_weights, .inl (cI, 24, .inl T_weights))]) rfl rfl rfl (by decide) (ws' := [(aT, .inr (5, [.int T_count, .ref aT_sets, .ref aT_weights, .ref aT_xs, .ref aT_ys, .ref aT_groupAt])), (aT_weights, .inl (cI, 24, .inl T_weights))]) rfl (As := [.int x1, .int x3_2]) (rest := []) rfl rfl (Nat.le_of_ble_eq_true rfl) dX5_heaviest_12 (fun hz_r3 => ?_)
    refine r_if_eq 30 S dX5_heaviest_15 (by decide) (fun c4 => ?_) (fun c4 => ?_)
    · replace hm := iT c4 hm
      refine r_iincc S dX5_heaviest_30 3 rfl (c0 := (1 : Int32)) rfl rfl (Nat.le_of_ble_eq_true rfl) (lv' := [(3, .int (x3_2 + (1 : Int32))), (0, .ref aT), (1, .int x1), (2, .int x2)]) rfl ?_
      refine r_goto 2 S dX5_heaviest_33 (by decide) ?_
      refine r_lv [1, 2, 3, 0] (lv' := [(0, .ref aT), (1, .int x1), (2, .int x2), (3, .int (x3_2 + (1 : Int32)))]) rfl ?_
      exact hk2 (x3_2 + (1 : Int32)) (Option.some.inj hm).symm
    · replace hm := iF c4 hm
      refine r_aload_n S dX5_heaviest_18 rfl 0 rfl ?_
      refine r_iload_n S dX5_heaviest_19 rfl 1 rfl ?_
      refine r_iload_n S dX5_heaviest_20 rfl 3 rfl ?_
      obtain ⟨r5, h_r5, hm⟩ := bS hm
      refine r_calliV S (c_X5_countAhead l0 D0 cI cJ cZ cY F aT aT_sets aT_weights aT_xs aT_ys aT_groupAt T_count T_weights x1 x3_2 _ h_r5) (gV u826 u827 u828 u20 u829) ok_X5_countAhead ⟨rfl, rfl⟩ ⟨Nat.le_of_ble_eq_true rfl, Nat.le_of_ble_eq_true rfl⟩ [0, 1] [] rfl (wr := []) rfl rfl rfl (by decide) (ci := 5) (T := TX5) 0 rfl rfl (ws' := [(aT, .inr (5, [.int T_count, .ref aT_sets, .ref aT_weights, .ref aT_xs, .ref aT_ys, .ref aT_groupAt])), (aT_weights, .inl (cI, 24, .inl T_weights))]) rfl (As := [.int x1, .int x3_2]) (rest := []) rfl rfl (Nat.le_of_ble_eq_true rfl) dX5_heaviest_21 ?_
      refine r_iload_n S dX5_heaviest_24 rfl 2 rfl ?_
      refine r_icmp_ne 30 S dX5_heaviest_25 (by decide) (fun c6 => ?_) (fun c6 => ?_)
      · replace hm := iF c6 hm
        refine r_iincc S dX5_heaviest_30 3 rfl (c0 := (1 : Int32)) rfl rfl (Nat.le_of_ble_eq_true rfl) (lv' := [(3, .int (x3_2 + (1 : Int32))), (0, .ref aT), (1, .int x1), (2, .int x2)]) rfl ?_
        refine r_goto 2 S dX5_heaviest_33 (by decide) ?_
        refine r_lv [1, 2, 3, 0] (lv' := [(0, .ref aT), (1, .int x1), (2, .int x2), (3, .int (x3_2 + (1 : Int32)))]) rfl ?_
        exact hk2 (x3_2 + (1 : Int32)) (Option.some.inj hm).symm
      · replace hm := iT c6 hm
        refine r_iload_n S dX5_heaviest_28 rfl 3 rfl ?_
        exact hR2 x3_2 _ _ (hr2 _ (Option.some.inj hm).symm) dX5_heaviest_29
def wtX6_farther : List Cond := Cond.code yX6_farther cX6_farther 2 (some .int) :: wsL_law
theorem ok_X6_farther : CallOK yX6_farther wtX6_farther RX6 2 2 := ⟨⟨_, _, _, rfl⟩, rfl, ⟨by decide +kernel, by decide +kernel⟩, by decide +kernel⟩
set_option maxRecDepth 100000 in
set_option maxHeartbeats 4000000 in
theorem c_X6_farther (l0 : Launch) (D0 : va_G) (cI cJ cZ cY : ClassId) (F : Nat) (x0 : Int32) (x1 : Int32) (res : Int32) (hm : mX6_farther F x0 x1 = some res) : Ci D0 [(cI, .int), (cJ, .long), (cZ, .boolean), (cY, .array .int)] l0 yX6_farther wtX6_farther ({ frames := 1, cells := 0, slots := 0, locals := 23 }) [.int x0, .int x1] (res) [] [] := by
  refine Ci.ofi cX6_farther 2 (own := RX6) (by decide +kernel) rfl rfl (Nat.le_of_ble_eq_true rfl) ?_
  intro X S hR0
  have hR : ∀ (r9 : Int32) (pc : Nat) (lv : List (Nat × Value)), some r9 = some res → decode cX6_farther pc = .ok (.ireturn, 1) → G X pc lv [.int (r9)] [] := fun r9 pc lv h9 hd => by cases h9; exact hR0 pc lv hd
  show G X 0 [(0, .int x0), (1, .int x1)] [] []
  unfold mX6_farther at hm
  refine r_iload_n S dX6_farther_0 rfl 0 rfl ?_
  refine r_mabs S (tl u940) (tl u941) (tl u189) (tl u942) (Nat.le_of_ble_eq_true rfl) (Nat.le_of_ble_eq_true rfl) dX6_farther_1 ?_
  obtain ⟨v1, h_v1, hm⟩ := bS hm
  refine r_topI h_v1 ?_
  refine r_iload_n S dX6_farther_4 rfl 1 rfl ?_
  refine r_mabs S (tl u940) (tl u941) (tl u189) (tl u942) (Nat.le_of_ble_eq_true rfl) (Nat.le_of_ble_eq_true rfl) dX6_farther_5 ?_
  obtain ⟨v2, h_v2, hm⟩ := bS hm
  refine r_topI h_v2 ?_
  refine r_mmax S (tl u710) (tl u199) (tl u189) (tl u200) (Nat.le_of_ble_eq_true rfl) (Nat.le_of_ble_eq_true rfl) dX6_farther_8 ?_
  obtain ⟨v3, h_v3, hm⟩ := bS hm
  refine r_topI h_v3 ?_
  exact hR v3 _ _ hm dX6_farther_11
def wtX5_gap : List Cond := Cond.code yX5_gap cX5_gap 3 (some .int) :: wsL_law
theorem ok_X5_gap : CallOK yX5_gap wtX5_gap RX5 2 3 := ⟨⟨_, _, _, rfl⟩, rfl, ⟨by decide +kernel, by decide +kernel⟩, by decide +kernel⟩
set_option maxRecDepth 100000 in
set_option maxHeartbeats 4000000 in
theorem c_X5_gap (l0 : Launch) (D0 : va_G) (cI cJ cZ cY : ClassId) (F : Nat) (aT aT_sets aT_weights aT_xs aT_ys aT_groupAt : Nat) (T_count : Int32) (T_xs : Nat → Int32) (T_ys : Nat → Int32) (x1 : Int32) (x2 : Int32) (res : Int32) (hm : mX5_gap F x1 x2 T_xs T_ys = some res) : Ci D0 [(cI, .int), (cJ, .long), (cZ, .boolean), (cY, .array .int)] l0 yX5_gap wtX5_gap ({ frames := 2, cells := 0, slots := 0, locals := 44 }) [.ref aT, .int x1, .int x2] (res) [(aT, .inr (5, [.int T_count, .ref aT_sets, .ref aT_weights, .ref aT_xs, .ref aT_ys, .ref aT_groupAt])), (aT_xs, .inl (cI, 24, .inl T_xs)), (aT_ys, .inl (cI, 24, .inl T_ys))] [(aT, .inr (5, [.int T_count, .ref aT_sets, .ref aT_weights, .ref aT_xs, .ref aT_ys, .ref aT_groupAt])), (aT_xs, .inl (cI, 24, .inl T_xs)), (aT_ys, .inl (cI, 24, .inl T_ys))] := by
  refine Ci.ofi cX5_gap 3 (own := RX5) (by decide +kernel) rfl rfl (Nat.le_of_ble_eq_true rfl) ?_
  intro X S hR0
  have hR : ∀ (r9 : Int32) (pc : Nat) (lv : List (Nat × Value)), some r9 = some res → decode cX5_gap pc = .ok (.ireturn, 1) → G X pc lv [.int (r9)] [(aT, .inr (5, [.int T_count, .ref aT_sets, .ref aT_weights, .ref aT_xs, .ref aT_ys, .ref aT_groupAt])), (aT_xs, .inl (cI, 24, .inl T_xs)), (aT_ys, .inl (cI, 24, .inl T_ys))] := fun r9 pc lv h9 hd => by cases h9; exact hR0 pc lv hd
  show G X 0 [(0, .ref aT), (1, .int x1), (2, .int x2)] [] [(aT, .inr (5, [.int T_count, .ref aT_sets, .ref aT_weights, .ref aT_xs, .ref aT_ys, .ref aT_groupAt])), (aT_xs, .inl (cI, 24, .inl T_xs)), (aT_ys, .inl (cI, 24, .inl T_ys))]
  unfold mX5_gap at hm
  refine r_aload_n S dX5_gap_0 rfl 0 rfl ?_
  refine r_get (T := TX5) (ci := 5) S (tlA inlX5) rfl 0 rfl 3 (Nat.le_of_ble_eq_true rfl) (tl u81) rfl dX5_gap_1 ?_
  refine r_iload_n S dX5_gap_4 rfl 1 rfl ?_
  obtain ⟨v1, h_v1, hm⟩ := bS hm
  refine r_iald S h_v1 1 0 rfl rfl dX5_gap_5 ?_
  refine r_aload_n S dX5_gap_6 rfl 0 rfl ?_
  refine r_get (T := TX5) (ci := 5) S (tlA inlX5) rfl 0 rfl 3 (Nat.le_of_ble_eq_true rfl) (tl u81) rfl dX5_gap_7 ?_
  refine r_iload_n S dX5_gap_10 rfl 2 rfl ?_
  obtain ⟨v2, h_v2, hm⟩ := bS hm
  refine r_iald S h_v2 1 0 rfl rfl dX5_gap_11 ?_
  refine r_isub S dX5_gap_12 ?_
  refine r_aload_n S dX5_gap_13 rfl 0 rfl ?_
  refine r_get (T := TX5) (ci := 5) S (tlA inlX5) rfl 0 rfl 4 (Nat.le_of_ble_eq_true rfl) (tl u82) rfl dX5_gap_14 ?_
  refine r_iload_n S dX5_gap_17 rfl 1 rfl ?_
  obtain ⟨v3, h_v3, hm⟩ := bS hm
  refine r_iald S h_v3 2 0 rfl rfl dX5_gap_18 ?_
  refine r_aload_n S dX5_gap_19 rfl 0 rfl ?_
  refine r_get (T := TX5) (ci := 5) S (tlA inlX5) rfl 0 rfl 4 (Nat.le_of_ble_eq_true rfl) (tl u82) rfl dX5_gap_20 ?_
  refine r_iload_n S dX5_gap_23 rfl 2 rfl ?_
  obtain ⟨v4, h_v4, hm⟩ := bS hm
  refine r_iald S h_v4 2 0 rfl rfl dX5_gap_24 ?_
  refine r_isub S dX5_gap_25 ?_
  obtain ⟨r5, h_r5, hm⟩ := bS hm
  refine r_calliS S (c_X6_farther l0 D0 cI cJ cZ cY F (v1 - v2) (v3 - v4) _ h_r5) (gS u1077 u938 u215 u939) ok_X6_farther ⟨rfl, rfl⟩ ⟨Nat.le_of_ble_eq_true rfl, Nat.le_of_ble_eq_true rfl⟩ [] [0, 1, 2] rfl (wr := [(aT, .inr (5, [.int T_count, .ref aT_sets, .ref aT_weights, .ref aT_xs, .ref aT_ys, .ref aT_groupAt])), (aT_xs, .inl (cI, 24, .inl T_xs)), (aT_ys, .inl (cI, 24, .inl T_ys))]) rfl rfl rfl (by decide) (ws' := [(aT, .inr (5, [.int T_count, .ref aT_sets, .ref aT_weights, .ref aT_xs, .ref aT_ys, .ref aT_groupAt])), (aT_xs, .inl (cI, 24, .inl T_xs)), (aT_ys, .inl (cI, 24, .inl T_ys))]) rfl (As := [.int (v1 - v2), .int (v3 - v4)]) (rest := []) rfl rfl (Nat.le_of_ble_eq_true rfl) dX5_gap_26 ?_
  exact hR r5 _ _ hm dX5_gap_29
def wtX0_nearestTo : List Cond := Cond.code yX0_nearestTo cX0_nearestTo 7 (some .int) :: wsL_law
theorem ok_X0_nearestTo : CallOK yX0_nearestTo wtX0_nearestTo RX0 2 7 := ⟨⟨_, _, _, rfl⟩, rfl, ⟨by decide +kernel, by decide +kernel⟩, by decide +kernel⟩
set_option maxRecDepth 100000 in
set_option maxHeartbeats 4000000 in
theorem c_X0_nearestTo (l0 : Launch) (D0 : va_G) (cI cJ cZ cY : ClassId) (F : Nat) (aT aq1 aT_visible aT_holders aq1_sets aq1_weights aq1_xs aq1_ys aq1_groupAt : Nat) (T_count : Int32) (q1_count : Int32) (T_visible : Nat → Int32) (q1_xs : Nat → Int32) (q1_ys : Nat → Int32) (x2 : Int32) (res : Int32) (hm : mX0_nearestTo F x2 T_count T_visible q1_xs q1_ys = some res) : Ci D0 [(cI, .int), (cJ, .long), (cZ, .boolean), (cY, .array .int)] l0 yX0_nearestTo wtX0_nearestTo ({ frames := 3, cells := 0, slots := 0, locals := 66 }) [.ref aT, .ref aq1, .int x2] (res) [(aT, .inr (0, [.int T_count, .ref aT_visible, .ref aT_holders])), (aq1, .inr (5, [.int q1_count, .ref aq1_sets, .ref aq1_weights, .ref aq1_xs, .ref aq1_ys, .ref aq1_groupAt])), (aT_visible, .inl (cI, 24, .inl T_visible)), (aq1_xs, .inl (cI, 24, .inl q1_xs)), (aq1_ys, .inl (cI, 24, .inl q1_ys))] [(aT, .inr (0, [.int T_count, .ref aT_visible, .ref aT_holders])), (aq1, .inr (5, [.int q1_count, .ref aq1_sets, .ref aq1_weights, .ref aq1_xs, .ref aq1_ys, .ref aq1_groupAt])), (aT_visible, .inl (cI, 24, .inl T_visible)), (aq1_xs, .inl (cI, 24, .inl q1_xs)), (aq1_ys, .inl (cI, 24, .inl q1_ys))] := by
  refine Ci.ofi cX0_nearestTo 7 (own := RX0) (by decide +kernel) rfl rfl (Nat.le_of_ble_eq_true rfl) ?_
  intro X S hR0
  have hR : ∀ (r9 : Int32) (pc : Nat) (lv : List (Nat × Value)), some r9 = some res → decode cX0_nearestTo pc = .ok (.ireturn, 1) → G X pc lv [.int (r9)] [(aT, .inr (0, [.int T_count, .ref aT_visible, .ref aT_holders])), (aq1, .inr (5, [.int q1_count, .ref aq1_sets, .ref aq1_weights, .ref aq1_xs, .ref aq1_ys, .ref aq1_groupAt])), (aT_visible, .inl (cI, 24, .inl T_visible)), (aq1_xs, .inl (cI, 24, .inl q1_xs)), (aq1_ys, .inl (cI, 24, .inl q1_ys))] := fun r9 pc lv h9 hd => by cases h9; exact hR0 pc lv hd
  show G X 0 [(0, .ref aT), (1, .ref aq1), (2, .int x2)] [] [(aT, .inr (0, [.int T_count, .ref aT_visible, .ref aT_holders])), (aq1, .inr (5, [.int q1_count, .ref aq1_sets, .ref aq1_weights, .ref aq1_xs, .ref aq1_ys, .ref aq1_groupAt])), (aT_visible, .inl (cI, 24, .inl T_visible)), (aq1_xs, .inl (cI, 24, .inl q1_xs)), (aq1_ys, .inl (cI, 24, .inl q1_ys))]
  unfold mX0_nearestTo at hm
  refine r_iconst (v := (-1 : Int32)) S dX0_nearestTo_0 rfl ?_
  refine r_istore_n S dX0_nearestTo_1 rfl (Nat.le_of_ble_eq_true rfl) (lv' := [(3, .int (-1 : Int32)), (0, .ref aT), (1, .ref aq1), (2, .int x2)]) rfl ?_
  refine r_iconst (v := (0 : Int32)) S dX0_nearestTo_2 rfl ?_
  refine r_istore S dX0_nearestTo_3 (Nat.le_of_ble_eq_true rfl) (lv' := [(4, .int (0 : Int32)), (3, .int (-1 : Int32)), (0, .ref aT), (1, .ref aq1), (2, .int x2)]) rfl ?_
  refine r_iconst (v := (0 : Int32)) S dX0_nearestTo_5 rfl ?_
  refine r_istore S dX0_nearestTo_6 (Nat.le_of_ble_eq_true rfl) (lv' := [(5, .int (0 : Int32)), (4, .int (0 : Int32)), (3, .int (-1 : Int32)), (0, .ref aT), (1, .ref aq1), (2, .int x2)]) rfl ?_
  have hR8 : ∀ (r9 : Int32) (pc : Nat) (lv : List (Nat × Value)), r9 = res → decode cX0_nearestTo pc = .ok (.ireturn, 1) → G X pc lv [.int (r9)] [(aT, .inr (0, [.int T_count, .ref aT_visible, .ref aT_holders])), (aq1, .inr (5, [.int q1_count, .ref aq1_sets, .ref aq1_weights, .ref aq1_xs, .ref aq1_ys, .ref aq1_groupAt])), (aT_visible, .inl (cI, 24, .inl T_visible)), (aq1_xs, .inl (cI, 24, .inl q1_xs)), (aq1_ys, .inl (cI, 24, .inl q1_ys))] := fun r9 pc lv h9 hd => hR r9 pc lv (congrArg some h9) hd
  refine r_lv [3, 4, 5, 2, 1, 0] (lv' := [(0, .ref aT), (1, .ref aq1), (2, .int x2), (3, .int (-1 : Int32)), (4, .int (0 : Int32)), (5, .int (0 : Int32))]) rfl ?_
  refine loopG (r0 := res) (Gd := fun s9 => G X 8 [(0, .ref aT), (1, .ref aq1), (2, .int x2), (3, .int s9.1), (4, .int s9.2.1), (5, .int s9.2.2)] [] [(aT, .inr (0, [.int T_count, .ref aT_visible, .ref aT_holders])), (aq1, .inr (5, [.int q1_count, .ref aq1_sets, .ref aq1_weights, .ref aq1_xs, .ref aq1_ys, .ref aq1_groupAt])), (aT_visible, .inl (cI, 24, .inl T_visible)), (aq1_xs, .inl (cI, 24, .inl q1_xs)), (aq1_ys, .inl (cI, 24, .inl q1_ys))]) ?_ _ _ hm
  rintro ⟨x3_8, x4_8, x5_8⟩ b8 hm hk8 hr8
  replace hm : mX0_nearestTo_b8 F x2 T_count T_visible q1_xs q1_ys x3_8 x4_8 x5_8 = some b8 := hm
  unfold mX0_nearestTo_b8 at hm
  show G X 8 [(0, .ref aT), (1, .ref aq1), (2, .int x2), (3, .int x3_8), (4, .int x4_8), (5, .int x5_8)] [] [(aT, .inr (0, [.int T_count, .ref aT_visible, .ref aT_holders])), (aq1, .inr (5, [.int q1_count, .ref aq1_sets, .ref aq1_weights, .ref aq1_xs, .ref aq1_ys, .ref aq1_groupAt])), (aT_visible, .inl (cI, 24, .inl T_visible)), (aq1_xs, .inl (cI, 24, .inl q1_xs)), (aq1_ys, .inl (cI, 24, .inl q1_ys))]
  refine r_iload S dX0_nearestTo_8 5 rfl ?_
  refine r_aload_n S dX0_nearestTo_10 rfl 0 rfl ?_
  refine r_get (T := TX0) (ci := 0) S (tlA inlX0) rfl 0 rfl 0 (Nat.le_of_ble_eq_true rfl) (tl u88) rfl dX0_nearestTo_11 ?_
  refine r_icmp_ge 56 S dX0_nearestTo_14 (by decide) (fun c2 => ?_) (fun c2 => ?_)
  · replace hm := iT c2 hm
    refine r_iload_n S dX0_nearestTo_56 rfl 3 rfl ?_
    exact hR8 x3_8 _ _ (hr8 _ (Option.some.inj hm).symm) dX0_nearestTo_57
  · replace hm := iF c2 hm
    refine r_aload_n S dX0_nearestTo_17 rfl 1 rfl ?_
    refine r_iload_n S dX0_nearestTo_18 rfl 2 rfl ?_
    refine r_aload_n S dX0_nearestTo_19 rfl 0 rfl ?_
    refine r_get (T := TX0) (ci := 0) S (tlA inlX0) rfl 0 rfl 1 (Nat.le_of_ble_eq_true rfl) (tl u89) rfl dX0_nearestTo_20 ?_
    refine r_iload S dX0_nearestTo_23 5 rfl ?_
    obtain ⟨v3, h_v3, hm⟩ := bS hm
    refine r_iald S h_v3 2 0 rfl rfl dX0_nearestTo_25 ?_
    obtain ⟨r4, h_r4, hm⟩ := bS hm
    refine r_calliV S (c_X5_gap l0 D0 cI cJ cZ cY F aq1 aq1_sets aq1_weights aq1_xs aq1_ys aq1_groupAt q1_count q1_xs q1_ys x2 v3 _ h_r4) (gV u1073 u1074 u1075 u20 u1076) ok_X5_gap ⟨rfl, rfl⟩ ⟨Nat.le_of_ble_eq_true rfl, Nat.le_of_ble_eq_true rfl⟩ [1, 3, 4] [0, 2] rfl (wr := [(aT, .inr (0, [.int T_count, .ref aT_visible, .ref aT_holders])), (aT_visible, .inl (cI, 24, .inl T_visible))]) rfl rfl rfl (by decide) (ci := 5) (T := TX5) 0 rfl rfl (ws' := [(aT, .inr (0, [.int T_count, .ref aT_visible, .ref aT_holders])), (aT_visible, .inl (cI, 24, .inl T_visible)), (aq1, .inr (5, [.int q1_count, .ref aq1_sets, .ref aq1_weights, .ref aq1_xs, .ref aq1_ys, .ref aq1_groupAt])), (aq1_xs, .inl (cI, 24, .inl q1_xs)), (aq1_ys, .inl (cI, 24, .inl q1_ys))]) rfl (As := [.int x2, .int v3]) (rest := []) rfl rfl (Nat.le_of_ble_eq_true rfl) dX0_nearestTo_26 ?_
    refine r_istore S dX0_nearestTo_29 (Nat.le_of_ble_eq_true rfl) (lv' := [(6, .int r4), (0, .ref aT), (1, .ref aq1), (2, .int x2), (3, .int x3_8), (4, .int x4_8), (5, .int x5_8)]) rfl ?_
    refine r_iload_n S dX0_nearestTo_31 rfl 4 rfl ?_
    refine r_iconst (v := (-1 : Int32)) S dX0_nearestTo_32 rfl ?_
    refine r_icmp_eq 43 S dX0_nearestTo_33 (by decide) (fun c5 => ?_) (fun c5 => ?_)
    · replace hm := iT c5 hm
      refine r_iload S dX0_nearestTo_43 6 rfl ?_
      refine r_istore_n S dX0_nearestTo_45 rfl (Nat.le_of_ble_eq_true rfl) (lv' := [(3, .int x5_8), (6, .int r4), (0, .ref aT), (1, .ref aq1), (2, .int x2), (4, .int x4_8), (5, .int x5_8)]) rfl ?_
      refine r_iload S dX0_nearestTo_46 1 rfl ?_
      refine r_istore S dX0_nearestTo_48 (Nat.le_of_ble_eq_true rfl) (lv' := [(4, .int r4), (3, .int x5_8), (6, .int r4), (0, .ref aT), (1, .ref aq1), (2, .int x2), (5, .int x5_8)]) rfl ?_
      refine r_iincc S dX0_nearestTo_50 6 rfl (c0 := (1 : Int32)) rfl rfl (Nat.le_of_ble_eq_true rfl) (lv' := [(5, .int (x5_8 + (1 : Int32))), (4, .int r4), (3, .int x5_8), (6, .int r4), (0, .ref aT), (1, .ref aq1), (2, .int x2)]) rfl ?_
      refine r_goto 8 S dX0_nearestTo_53 (by decide) ?_
      refine r_perm [0, 2, 1, 3, 4] (ws' := [(aT, .inr (0, [.int T_count, .ref aT_visible, .ref aT_holders])), (aq1, .inr (5, [.int q1_count, .ref aq1_sets, .ref aq1_weights, .ref aq1_xs, .ref aq1_ys, .ref aq1_groupAt])), (aT_visible, .inl (cI, 24, .inl T_visible)), (aq1_xs, .inl (cI, 24, .inl q1_xs)), (aq1_ys, .inl (cI, 24, .inl q1_ys))]) rfl rfl ?_
      refine r_lv [4, 5, 6, 2, 1, 0] (lv' := [(0, .ref aT), (1, .ref aq1), (2, .int x2), (3, .int x5_8), (4, .int r4), (5, .int (x5_8 + (1 : Int32)))]) rfl ?_
      exact hk8 (x5_8, r4, (x5_8 + (1 : Int32))) (Option.some.inj hm).symm
    · replace hm := iF c5 hm
      refine r_iload S dX0_nearestTo_36 0 rfl ?_
      refine r_iload S dX0_nearestTo_38 5 rfl ?_
      refine r_icmp_ge 50 S dX0_nearestTo_40 (by decide) (fun c6 => ?_) (fun c6 => ?_)
      · replace hm := iT c6 hm
        refine r_iincc S dX0_nearestTo_50 6 rfl (c0 := (1 : Int32)) rfl rfl (Nat.le_of_ble_eq_true rfl) (lv' := [(5, .int (x5_8 + (1 : Int32))), (6, .int r4), (0, .ref aT), (1, .ref aq1), (2, .int x2), (3, .int x3_8), (4, .int x4_8)]) rfl ?_
        refine r_goto 8 S dX0_nearestTo_53 (by decide) ?_
        refine r_perm [0, 2, 1, 3, 4] (ws' := [(aT, .inr (0, [.int T_count, .ref aT_visible, .ref aT_holders])), (aq1, .inr (5, [.int q1_count, .ref aq1_sets, .ref aq1_weights, .ref aq1_xs, .ref aq1_ys, .ref aq1_groupAt])), (aT_visible, .inl (cI, 24, .inl T_visible)), (aq1_xs, .inl (cI, 24, .inl q1_xs)), (aq1_ys, .inl (cI, 24, .inl q1_ys))]) rfl rfl ?_
        refine r_lv [2, 3, 4, 5, 6, 0] (lv' := [(0, .ref aT), (1, .ref aq1), (2, .int x2), (3, .int x3_8), (4, .int x4_8), (5, .int (x5_8 + (1 : Int32)))]) rfl ?_
        exact hk8 (x3_8, x4_8, (x5_8 + (1 : Int32))) (Option.some.inj hm).symm
      · replace hm := iF c6 hm
        refine r_iload S dX0_nearestTo_43 6 rfl ?_
        refine r_istore_n S dX0_nearestTo_45 rfl (Nat.le_of_ble_eq_true rfl) (lv' := [(3, .int x5_8), (6, .int r4), (0, .ref aT), (1, .ref aq1), (2, .int x2), (4, .int x4_8), (5, .int x5_8)]) rfl ?_
        refine r_iload S dX0_nearestTo_46 1 rfl ?_
        refine r_istore S dX0_nearestTo_48 (Nat.le_of_ble_eq_true rfl) (lv' := [(4, .int r4), (3, .int x5_8), (6, .int r4), (0, .ref aT), (1, .ref aq1), (2, .int x2), (5, .int x5_8)]) rfl ?_
        refine r_iincc S dX0_nearestTo_50 6 rfl (c0 := (1 : Int32)) rfl rfl (Nat.le_of_ble_eq_true rfl) (lv' := [(5, .int (x5_8 + (1 : Int32))), (4, .int r4), (3, .int x5_8), (6, .int r4), (0, .ref aT), (1, .ref aq1), (2, .int x2)]) rfl ?_
        refine r_goto 8 S dX0_nearestTo_53 (by decide) ?_
        refine r_perm [0, 2, 1, 3, 4] (ws' := [(aT, .inr (0, [.int T_count, .ref aT_visible, .ref aT_holders])), (aq1, .inr (5, [.int q1_count, .ref aq1_sets, .ref aq1_weights, .ref aq1_xs, .ref aq1_ys, .ref aq1_groupAt])), (aT_visible, .inl (cI, 24, .inl T_visible)), (aq1_xs, .inl (cI, 24, .inl q1_xs)), (aq1_ys, .inl (cI, 24, .inl q1_ys))]) rfl rfl ?_
        refine r_lv [4, 5, 6, 2, 1, 0] (lv' := [(0, .ref aT), (1, .ref aq1), (2, .int x2), (3, .int x5_8), (4, .int r4), (5, .int (x5_8 + (1 : Int32)))]) rfl ?_
        exact hk8 (x5_8, r4, (x5_8 + (1 : Int32))) (Option.some.inj hm).symm
def wtX0_isClear : List Cond := Cond.code yX0_isClear cX0_isClear 5 (some .boolean) :: wsL_law
theorem ok_X0_isClear : CallOK yX0_isClear wtX0_isClear RX0 3 5 := ⟨⟨_, _, _, rfl⟩, rfl, ⟨by decide +kernel, by decide +kernel⟩, by decide +kernel⟩
set_option maxRecDepth 100000 in
set_option maxHeartbeats 4000000 in
theorem c_X0_isClear (l0 : Launch) (D0 : va_G) (cI cJ cZ cY : ClassId) (F : Nat) (aT aq1 aT_visible aT_holders aq1_sets aq1_weights aq1_xs aq1_ys aq1_groupAt : Nat) (T_count : Int32) (q1_count : Int32) (T_visible : Nat → Int32) (q1_xs : Nat → Int32) (q1_ys : Nat → Int32) (x2 : Int32) (x3 : Int32) (res : Int32) (hm : mX0_isClear F x2 x3 T_count T_visible q1_xs q1_ys = some res) : Cz D0 [(cI, .int), (cJ, .long), (cZ, .boolean), (cY, .array .int)] l0 yX0_isClear wtX0_isClear ({ frames := 4, cells := 0, slots := 0, locals := 92 }) [.ref aT, .ref aq1, .int x2, .int x3] (res) [(aT, .inr (0, [.int T_count, .ref aT_visible, .ref aT_holders])), (aq1, .inr (5, [.int q1_count, .ref aq1_sets, .ref aq1_weights, .ref aq1_xs, .ref aq1_ys, .ref aq1_groupAt])), (aT_visible, .inl (cI, 24, .inl T_visible)), (aq1_xs, .inl (cI, 24, .inl q1_xs)), (aq1_ys, .inl (cI, 24, .inl q1_ys))] [(aT, .inr (0, [.int T_count, .ref aT_visible, .ref aT_holders])), (aq1, .inr (5, [.int q1_count, .ref aq1_sets, .ref aq1_weights, .ref aq1_xs, .ref aq1_ys, .ref aq1_groupAt])), (aT_visible, .inl (cI, 24, .inl T_visible)), (aq1_xs, .inl (cI, 24, .inl q1_xs)), (aq1_ys, .inl (cI, 24, .inl q1_ys))] := by
  refine Cz.ofz cX0_isClear 5 (own := RX0) (by decide +kernel) rfl rfl (Nat.le_of_ble_eq_true rfl) ?_
  intro X S hR0
  have hR : ∀ (r9 : Int32) (pc : Nat) (lv : List (Nat × Value)), some r9 = some res → decode cX0_isClear pc = .ok (.ireturn, 1) → (r9 = 0 ∨ r9 = 1) → G X pc lv [.int (r9)] [(aT, .inr (0, [.int T_count, .ref aT_visible, .ref aT_holders])), (aq1, .inr (5, [.int q1_count, .ref aq1_sets, .ref aq1_weights, .ref aq1_xs, .ref aq1_ys, .ref aq1_groupAt])), (aT_visible, .inl (cI, 24, .inl T_visible)), (aq1_xs, .inl (cI, 24, .inl q1_xs)), (aq1_ys, .inl (cI, 24, .inl q1_ys))] := fun r9 pc lv h9 hd hz9 => by cases h9; exact hR0 pc lv hd hz9
  show G X 0 [(0, .ref aT), (1, .ref aq1), (2, .int x2), (3, .int x3)] [] [(aT, .inr (0, [.int T_count, .ref aT_visible, .ref aT_holders])), (aq1, .inr (5, [.int q1_count, .ref aq1_sets, .ref aq1_weights, .ref aq1_xs, .ref aq1_ys, .ref aq1_groupAt])), (aT_visible, .inl (cI, 24, .inl T_visible)), (aq1_xs, .inl (cI, 24, .inl q1_xs)), (aq1_ys, .inl (cI, 24, .inl q1_ys))]
  unfold mX0_isClear at hm
  refine r_aload_n S dX0_isClear_0 rfl 0 rfl ?_
  refine r_aload_n S dX0_isClear_1 rfl 1 rfl ?_
  refine r_iload_n S dX0_isClear_2 rfl 2 rfl ?_
  obtain ⟨r1, h_r1, hm⟩ := bS hm
  refine r_calliV S (c_X0_nearestTo l0 D0 cI cJ cZ cY F aT aq1 aT_visible aT_holders aq1_sets aq1_weights aq1_xs aq1_ys aq1_groupAt T_count q1_count T_visible q1_xs q1_ys x2 _ h_r1) (gV u1069 u1070 u1071 u25 u1072) ok_X0_nearestTo ⟨rfl, rfl⟩ ⟨Nat.le_of_ble_eq_true rfl, Nat.le_of_ble_eq_true rfl⟩ [0, 1, 2, 3, 4] [] rfl (wr := []) rfl rfl rfl (by decide) (ci := 0) (T := TX0) 0 rfl rfl (ws' := [(aT, .inr (0, [.int T_count, .ref aT_visible, .ref aT_holders])), (aq1, .inr (5, [.int q1_count, .ref aq1_sets, .ref aq1_weights, .ref aq1_xs, .ref aq1_ys, .ref aq1_groupAt])), (aT_visible, .inl (cI, 24, .inl T_visible)), (aq1_xs, .inl (cI, 24, .inl q1_xs)), (aq1_ys, .inl (cI, 24, .inl q1_ys))]) rfl (As := [.ref aq1, .int x2]) (rest := []) rfl rfl (Nat.le_of_ble_eq_true rfl) dX0_isClear_3 ?_
  refine r_istore S dX0_isClear_6 (Nat.le_of_ble_eq_true rfl) (lv' := [(4, .int r1), (0, .ref aT), (1, .ref aq1), (2, .int x2), (3, .int x3)]) rfl ?_
  refine r_iload S dX0_isClear_8 0 rfl ?_
  refine r_iconst (v := (-1 : Int32)) S dX0_isClear_10 rfl ?_
  refine r_icmp_eq 30 S dX0_isClear_11 (by decide) (fun c2 => ?_) (fun c2 => ?_)
  · replace hm := iT c2 hm
    refine r_iconst (v := (1 : Int32)) S dX0_isClear_30 rfl ?_
    refine r_goto 35 S dX0_isClear_31 (by decide) ?_
    exact hR (1 : Int32) _ _ hm dX0_isClear_35 (Or.inr rfl)
  · replace hm := iF c2 hm
    refine r_aload_n S dX0_isClear_14 rfl 2 rfl ?_
    refine r_iload_n S dX0_isClear_15 rfl 3 rfl ?_
    refine r_aload_n S dX0_isClear_16 rfl 1 rfl ?_
    refine r_get (T := TX0) (ci := 0) S (tlA inlX0) rfl 0 rfl 1 (Nat.le_of_ble_eq_true rfl) (tl u89) rfl dX0_isClear_17 ?_
    refine r_iload S dX0_isClear_20 0 rfl ?_
    obtain ⟨v3, h_v3, hm⟩ := bS hm
    refine r_iald S h_v3 2 0 rfl rfl dX0_isClear_22 ?_
    obtain ⟨r4, h_r4, hm⟩ := bS hm
    refine r_calliV S (c_X5_gap l0 D0 cI cJ cZ cY F aq1 aq1_sets aq1_weights aq1_xs aq1_ys aq1_groupAt q1_count q1_xs q1_ys x2 v3 _ h_r4) (gV u1073 u1074 u1075 u20 u1076) ok_X5_gap ⟨rfl, rfl⟩ ⟨Nat.le_of_ble_eq_true rfl, Nat.le_of_ble_eq_true rfl⟩ [1, 3, 4] [0, 2] rfl (wr := [(aT, .inr (0, [.int T_count, .ref aT_visible, .ref aT_holders])), (aT_visible, .inl (cI, 24, .inl T_visible))]) rfl rfl rfl (by decide) (ci := 5) (T := TX5) 0 rfl rfl (ws' := [(aT, .inr (0, [.int T_count, .ref aT_visible, .ref aT_holders])), (aT_visible, .inl (cI, 24, .inl T_visible)), (aq1, .inr (5, [.int q1_count, .ref aq1_sets, .ref aq1_weights, .ref aq1_xs, .ref aq1_ys, .ref aq1_groupAt])), (aq1_xs, .inl (cI, 24, .inl q1_xs)), (aq1_ys, .inl (cI, 24, .inl q1_ys))]) rfl (As := [.int x2, .int v3]) (rest := []) rfl rfl (Nat.le_of_ble_eq_true rfl) dX0_isClear_23 ?_
    refine r_iload_n S dX0_isClear_26 rfl 4 rfl ?_
    refine r_icmp_le 34 S dX0_isClear_27 (by decide) (fun c5 => ?_) (fun c5 => ?_)
    · replace hm := iT c5 hm
      refine r_iconst (v := (0 : Int32)) S dX0_isClear_34 rfl ?_
      refine r_perm [0, 2, 1, 3, 4] (ws' := [(aT, .inr (0, [.int T_count, .ref aT_visible, .ref aT_holders])), (aq1, .inr (5, [.int q1_count, .ref aq1_sets, .ref aq1_weights, .ref aq1_xs, .ref aq1_ys, .ref aq1_groupAt])), (aT_visible, .inl (cI, 24, .inl T_visible)), (aq1_xs, .inl (cI, 24, .inl q1_xs)), (aq1_ys, .inl (cI, 24, .inl q1_ys))]) rfl rfl ?_
      exact hR (0 : Int32) _ _ hm dX0_isClear_35 (Or.inl rfl)
    · replace hm := iF c5 hm
      refine r_iconst (v := (1 : Int32)) S dX0_isClear_30 rfl ?_
      refine r_goto 35 S dX0_isClear_31 (by decide) ?_
      refine r_perm [0, 2, 1, 3, 4] (ws' := [(aT, .inr (0, [.int T_count, .ref aT_visible, .ref aT_holders])), (aq1, .inr (5, [.int q1_count, .ref aq1_sets, .ref aq1_weights, .ref aq1_xs, .ref aq1_ys, .ref aq1_groupAt])), (aT_visible, .inl (cI, 24, .inl T_visible)), (aq1_xs, .inl (cI, 24, .inl q1_xs)), (aq1_ys, .inl (cI, 24, .inl q1_ys))]) rfl rfl ?_
      exact hR (1 : Int32) _ _ hm dX0_isClear_35 (Or.inr rfl)
def wtX0_lay : List Cond := Cond.code yX0_lay cX0_lay 6 none :: wsL_law
theorem ok_X0_lay : CallOK yX0_lay wtX0_lay RX0 2 6 := ⟨⟨_, _, _, rfl⟩, rfl, ⟨by decide +kernel, by decide +kernel⟩, by decide +kernel⟩
set_option maxRecDepth 100000 in
set_option maxHeartbeats 4000000 in
theorem c_X0_lay (l0 : Launch) (D0 : va_G) (cI cJ cZ cY : ClassId) (F : Nat) (aT aq1 aT_visible aT_holders aq1_sets aq1_weights aq1_xs aq1_ys aq1_groupAt : Nat) (T_count : Int32) (q1_count : Int32) (T_holders : Nat → Int32) (T_visible : Nat → Int32) (q1_weights : Nat → Int32) (q1_xs : Nat → Int32) (q1_ys : Nat → Int32) (x2 : Int32) (res : Int32 × (Nat → Int32) × (Nat → Int32)) (hm : mX0_lay F x2 T_count q1_count T_holders T_visible q1_weights q1_xs q1_ys = some res) : Cv D0 [(cI, .int), (cJ, .long), (cZ, .boolean), (cY, .array .int)] l0 yX0_lay wtX0_lay ({ frames := 5, cells := 0, slots := 0, locals := 116 }) [.ref aT, .ref aq1, .int x2] [(aT, .inr (0, [.int T_count, .ref aT_visible, .ref aT_holders])), (aq1, .inr (5, [.int q1_count, .ref aq1_sets, .ref aq1_weights, .ref aq1_xs, .ref aq1_ys, .ref aq1_groupAt])), (aT_holders, .inl (cI, 24, .inl T_holders)), (aT_visible, .inl (cI, 24, .inl T_visible)), (aq1_weights, .inl (cI, 24, .inl q1_weights)), (aq1_xs, .inl (cI, 24, .inl q1_xs)), (aq1_ys, .inl (cI, 24, .inl q1_ys))] [(aT, .inr (0, [.int (res.1), .ref aT_visible, .ref aT_holders])), (aq1, .inr (5, [.int q1_count, .ref aq1_sets, .ref aq1_weights, .ref aq1_xs, .ref aq1_ys, .ref aq1_groupAt])), (aT_holders, .inl (cI, 24, .inl (res.2.1))), (aT_visible, .inl (cI, 24, .inl (res.2.2))), (aq1_weights, .inl (cI, 24, .inl q1_weights)), (aq1_xs, .inl (cI, 24, .inl q1_xs)), (aq1_ys, .inl (cI, 24, .inl q1_ys))] := by
  refine Cv.ofv cX0_lay 6 (own := RX0) (by decide +kernel) rfl rfl (Nat.le_of_ble_eq_true rfl) ?_
  intro X S hR0
  have hR : ∀ (r9 : Int32 × (Nat → Int32) × (Nat → Int32)) (pc : Nat) (lv : List (Nat × Value)), some r9 = some res → decode cX0_lay pc = .ok (.return_, 1) → G X pc lv [] [(aT, .inr (0, [.int (r9.1), .ref aT_visible, .ref aT_holders])), (aq1, .inr (5, [.int q1_count, .ref aq1_sets, .ref aq1_weights, .ref aq1_xs, .ref aq1_ys, .ref aq1_groupAt])), (aT_holders, .inl (cI, 24, .inl (r9.2.1))), (aT_visible, .inl (cI, 24, .inl (r9.2.2))), (aq1_weights, .inl (cI, 24, .inl q1_weights)), (aq1_xs, .inl (cI, 24, .inl q1_xs)), (aq1_ys, .inl (cI, 24, .inl q1_ys))] := fun r9 pc lv h9 hd => by cases h9; exact hR0 pc lv hd
  show G X 0 [(0, .ref aT), (1, .ref aq1), (2, .int x2)] [] [(aT, .inr (0, [.int T_count, .ref aT_visible, .ref aT_holders])), (aq1, .inr (5, [.int q1_count, .ref aq1_sets, .ref aq1_weights, .ref aq1_xs, .ref aq1_ys, .ref aq1_groupAt])), (aT_holders, .inl (cI, 24, .inl T_holders)), (aT_visible, .inl (cI, 24, .inl T_visible)), (aq1_weights, .inl (cI, 24, .inl q1_weights)), (aq1_xs, .inl (cI, 24, .inl q1_xs)), (aq1_ys, .inl (cI, 24, .inl q1_ys))]
  unfold mX0_lay at hm
  refine r_aload_n S dX0_lay_0 rfl 1 rfl ?_
  refine r_get (T := TX5) (ci := 5) S (tlA inlX5) rfl 1 rfl 0 (Nat.le_of_ble_eq_true rfl) (tl u1060) rfl dX0_lay_1 ?_
  obtain ⟨r1, h_r1, hm⟩ := bS hm
  refine r_calliS S (c_X6_first l0 D0 cI cJ cZ cY F q1_count _ h_r1) (gS u1061 u1062 u215 u1063) ok_X6_first ⟨rfl, rfl⟩ ⟨Nat.le_of_ble_eq_true rfl, Nat.le_of_ble_eq_true rfl⟩ [] [0, 1, 2, 3, 4, 5, 6] rfl (wr := [(aT, .inr (0, [.int T_count, .ref aT_visible, .ref aT_holders])), (aq1, .inr (5, [.int q1_count, .ref aq1_sets, .ref aq1_weights, .ref aq1_xs, .ref aq1_ys, .ref aq1_groupAt])), (aT_holders, .inl (cI, 24, .inl T_holders)), (aT_visible, .inl (cI, 24, .inl T_visible)), (aq1_weights, .inl (cI, 24, .inl q1_weights)), (aq1_xs, .inl (cI, 24, .inl q1_xs)), (aq1_ys, .inl (cI, 24, .inl q1_ys))]) rfl rfl rfl (by decide) (ws' := [(aT, .inr (0, [.int T_count, .ref aT_visible, .ref aT_holders])), (aq1, .inr (5, [.int q1_count, .ref aq1_sets, .ref aq1_weights, .ref aq1_xs, .ref aq1_ys, .ref aq1_groupAt])), (aT_holders, .inl (cI, 24, .inl T_holders)), (aT_visible, .inl (cI, 24, .inl T_visible)), (aq1_weights, .inl (cI, 24, .inl q1_weights)), (aq1_xs, .inl (cI, 24, .inl q1_xs)), (aq1_ys, .inl (cI, 24, .inl q1_ys))]) rfl (As := [.int q1_count]) (rest := []) rfl rfl (Nat.le_of_ble_eq_true rfl) dX0_lay_4 ?_
  refine r_istore_n S dX0_lay_7 rfl (Nat.le_of_ble_eq_true rfl) (lv' := [(3, .int r1), (0, .ref aT), (1, .ref aq1), (2, .int x2)]) rfl ?_
  refine r_aload_n S dX0_lay_8 rfl 1 rfl ?_
  refine r_iconst (v := (0 : Int32)) S dX0_lay_9 rfl ?_
  refine r_put (T := TX0) (ci := 0) S (tlA inlX0) tyX0 tyX0_ok nmX0 rfl 0 rfl 0 (Nat.le_of_ble_eq_true rfl) (tl u88) rfl rfl rfl (Nat.le_of_ble_eq_true rfl) (ws' := [(aT, .inr (0, [.int (0 : Int32), .ref aT_visible, .ref aT_holders])), (aq1, .inr (5, [.int q1_count, .ref aq1_sets, .ref aq1_weights, .ref aq1_xs, .ref aq1_ys, .ref aq1_groupAt])), (aT_holders, .inl (cI, 24, .inl T_holders)), (aT_visible, .inl (cI, 24, .inl T_visible)), (aq1_weights, .inl (cI, 24, .inl q1_weights)), (aq1_xs, .inl (cI, 24, .inl q1_xs)), (aq1_ys, .inl (cI, 24, .inl q1_ys))]) rfl dX0_lay_10 ?_
  refine r_iconst (v := (0 : Int32)) S dX0_lay_13 rfl ?_
  refine r_istore S dX0_lay_14 (Nat.le_of_ble_eq_true rfl) (lv' := [(4, .int (0 : Int32)), (3, .int r1), (0, .ref aT), (1, .ref aq1), (2, .int x2)]) rfl ?_
  obtain ⟨q2, hl16, hm⟩ := bS hm
  have hE16_78 : ∀ (r2 : Int32 × (Nat → Int32)), r2 = q2 → G X 78 [(0, .ref aT), (1, .ref aq1)] [] [(aT, .inr (0, [.int r2.1, .ref aT_visible, .ref aT_holders])), (aq1, .inr (5, [.int q1_count, .ref aq1_sets, .ref aq1_weights, .ref aq1_xs, .ref aq1_ys, .ref aq1_groupAt])), (aT_holders, .inl (cI, 24, .inl T_holders)), (aT_visible, .inl (cI, 24, .inl r2.2)), (aq1_weights, .inl (cI, 24, .inl q1_weights)), (aq1_xs, .inl (cI, 24, .inl q1_xs)), (aq1_ys, .inl (cI, 24, .inl q1_ys))] := by
    intro r2 h9
    subst h9
    refine r_iconst (v := (0 : Int32)) S dX0_lay_78 rfl ?_
    refine r_istore S dX0_lay_79 (Nat.le_of_ble_eq_true rfl) (lv' := [(4, .int (0 : Int32)), (0, .ref aT), (1, .ref aq1)]) rfl ?_
    have hR81 : ∀ (r9 : Int32 × (Nat → Int32) × (Nat → Int32)) (pc : Nat) (lv : List (Nat × Value)), r9 = res → decode cX0_lay pc = .ok (.return_, 1) → G X pc lv [] [(aT, .inr (0, [.int (r9.1), .ref aT_visible, .ref aT_holders])), (aq1, .inr (5, [.int q1_count, .ref aq1_sets, .ref aq1_weights, .ref aq1_xs, .ref aq1_ys, .ref aq1_groupAt])), (aT_holders, .inl (cI, 24, .inl (r9.2.1))), (aT_visible, .inl (cI, 24, .inl (r9.2.2))), (aq1_weights, .inl (cI, 24, .inl q1_weights)), (aq1_xs, .inl (cI, 24, .inl q1_xs)), (aq1_ys, .inl (cI, 24, .inl q1_ys))] := fun r9 pc lv h9 hd => hR r9 pc lv (congrArg some h9) hd
    refine r_lv [1, 2, 0] (lv' := [(0, .ref aT), (1, .ref aq1), (4, .int (0 : Int32))]) rfl ?_
    refine loopG (r0 := res) (Gd := fun s9 => G X 81 [(0, .ref aT), (1, .ref aq1), (4, .int s9.1)] [] [(aT, .inr (0, [.int r2.1, .ref aT_visible, .ref aT_holders])), (aq1, .inr (5, [.int q1_count, .ref aq1_sets, .ref aq1_weights, .ref aq1_xs, .ref aq1_ys, .ref aq1_groupAt])), (aT_holders, .inl (cI, 24, .inl s9.2)), (aT_visible, .inl (cI, 24, .inl r2.2)), (aq1_weights, .inl (cI, 24, .inl q1_weights)), (aq1_xs, .inl (cI, 24, .inl q1_xs)), (aq1_ys, .inl (cI, 24, .inl q1_ys))]) ?_ _ _ hm
    rintro ⟨x4_81, T_holders_81⟩ b81 hm hk81 hr81
    replace hm : mX0_lay_b81 F q1_count q1_xs q1_ys r2.1 r2.2 x4_81 T_holders_81 = some b81 := hm
    unfold mX0_lay_b81 at hm
    show G X 81 [(0, .ref aT), (1, .ref aq1), (4, .int x4_81)] [] [(aT, .inr (0, [.int r2.1, .ref aT_visible, .ref aT_holders])), (aq1, .inr (5, [.int q1_count, .ref aq1_sets, .ref aq1_weights, .ref aq1_xs, .ref aq1_ys, .ref aq1_groupAt])), (aT_holders, .inl (cI, 24, .inl T_holders_81)), (aT_visible, .inl (cI, 24, .inl r2.2)), (aq1_weights, .inl (cI, 24, .inl q1_weights)), (aq1_xs, .inl (cI, 24, .inl q1_xs)), (aq1_ys, .inl (cI, 24, .inl q1_ys))]
    refine r_iload S dX0_lay_81 2 rfl ?_
    refine r_aload_n S dX0_lay_83 rfl 1 rfl ?_
    refine r_get (T := TX5) (ci := 5) S (tlA inlX5) rfl 1 rfl 0 (Nat.le_of_ble_eq_true rfl) (tl u1060) rfl dX0_lay_84 ?_
    refine r_icmp_ge 110 S dX0_lay_87 (by decide) (fun c11 => ?_) (fun c11 => ?_)
    · replace hm := iT c11 hm
      exact hR81 (r2.1, T_holders_81, r2.2) _ _ (hr81 _ (Option.some.inj hm).symm) dX0_lay_110
    · replace hm := iF c11 hm
      refine r_aload_n S dX0_lay_90 rfl 0 rfl ?_
      refine r_get (T := TX0) (ci := 0) S (tlA inlX0) rfl 0 rfl 2 (Nat.le_of_ble_eq_true rfl) (tl u90) rfl dX0_lay_91 ?_
      refine r_iload S dX0_lay_94 2 rfl ?_
      refine r_aload_n S dX0_lay_96 rfl 0 rfl ?_
      refine r_aload_n S dX0_lay_97 rfl 1 rfl ?_
      refine r_iload S dX0_lay_98 2 rfl ?_
      obtain ⟨r12, h_r12, hm⟩ := bS hm
      refine r_calliV S (c_X0_nearestTo l0 D0 cI cJ cZ cY F aT aq1 aT_visible aT_holders aq1_sets aq1_weights aq1_xs aq1_ys aq1_groupAt r2.1 q1_count r2.2 q1_xs q1_ys x4_81 _ h_r12) (gV u1069 u1070 u1071 u25 u1072) ok_X0_nearestTo ⟨rfl, rfl⟩ ⟨Nat.le_of_ble_eq_true rfl, Nat.le_of_ble_eq_true rfl⟩ [0, 1, 3, 5, 6] [2, 4] rfl (wr := [(aT_holders, .inl (cI, 24, .inl T_holders_81)), (aq1_weights, .inl (cI, 24, .inl q1_weights))]) rfl rfl rfl (by decide) (ci := 0) (T := TX0) 0 rfl rfl (ws' := [(aT_holders, .inl (cI, 24, .inl T_holders_81)), (aq1_weights, .inl (cI, 24, .inl q1_weights)), (aT, .inr (0, [.int r2.1, .ref aT_visible, .ref aT_holders])), (aq1, .inr (5, [.int q1_count, .ref aq1_sets, .ref aq1_weights, .ref aq1_xs, .ref aq1_ys, .ref aq1_groupAt])), (aT_visible, .inl (cI, 24, .inl r2.2)), (aq1_xs, .inl (cI, 24, .inl q1_xs)), (aq1_ys, .inl (cI, 24, .inl q1_ys))]) rfl (As := [.ref aq1, .int x4_81]) (rest := [.int x4_81, .ref aT_holders]) rfl rfl (Nat.le_of_ble_eq_true rfl) dX0_lay_100 ?_
      obtain ⟨g13, h_g13, hm⟩ := bS hm
      refine r_iast S h_g13 0 0 rfl rfl (ws' := [(aT_holders, .inl (cI, 24, .inl g13)), (aq1_weights, .inl (cI, 24, .inl q1_weights)), (aT, .inr (0, [.int r2.1, .ref aT_visible, .ref aT_holders])), (aq1, .inr (5, [.int q1_count, .ref aq1_sets, .ref aq1_weights, .ref aq1_xs, .ref aq1_ys, .ref aq1_groupAt])), (aT_visible, .inl (cI, 24, .inl r2.2)), (aq1_xs, .inl (cI, 24, .inl q1_xs)), (aq1_ys, .inl (cI, 24, .inl q1_ys))]) rfl dX0_lay_103 ?_
      refine r_iincc S dX0_lay_104 2 rfl (c0 := (1 : Int32)) rfl rfl (Nat.le_of_ble_eq_true rfl) (lv' := [(4, .int (x4_81 + (1 : Int32))), (0, .ref aT), (1, .ref aq1)]) rfl ?_
      refine r_goto 81 S dX0_lay_107 (by decide) ?_
      refine r_perm [2, 3, 0, 4, 1, 5, 6] (ws' := [(aT, .inr (0, [.int r2.1, .ref aT_visible, .ref aT_holders])), (aq1, .inr (5, [.int q1_count, .ref aq1_sets, .ref aq1_weights, .ref aq1_xs, .ref aq1_ys, .ref aq1_groupAt])), (aT_holders, .inl (cI, 24, .inl g13)), (aT_visible, .inl (cI, 24, .inl r2.2)), (aq1_weights, .inl (cI, 24, .inl q1_weights)), (aq1_xs, .inl (cI, 24, .inl q1_xs)), (aq1_ys, .inl (cI, 24, .inl q1_ys))]) rfl rfl ?_
      refine r_lv [1, 2, 0] (lv' := [(0, .ref aT), (1, .ref aq1), (4, .int (x4_81 + (1 : Int32)))]) rfl ?_
      exact hk81 ((x4_81 + (1 : Int32)), g13) (Option.some.inj hm).symm
  refine r_lv [2, 3, 4, 1, 0] (lv' := [(0, .ref aT), (1, .ref aq1), (2, .int x2), (3, .int r1), (4, .int (0 : Int32))]) rfl ?_
  refine loopG (r0 := q2) (Gd := fun s9 => G X 16 [(0, .ref aT), (1, .ref aq1), (2, .int x2), (3, .int r1), (4, .int s9.1)] [] [(aT, .inr (0, [.int s9.2.1, .ref aT_visible, .ref aT_holders])), (aq1, .inr (5, [.int q1_count, .ref aq1_sets, .ref aq1_weights, .ref aq1_xs, .ref aq1_ys, .ref aq1_groupAt])), (aT_holders, .inl (cI, 24, .inl T_holders)), (aT_visible, .inl (cI, 24, .inl s9.2.2)), (aq1_weights, .inl (cI, 24, .inl q1_weights)), (aq1_xs, .inl (cI, 24, .inl q1_xs)), (aq1_ys, .inl (cI, 24, .inl q1_ys))]) ?_ _ _ hl16
  rintro ⟨x4_16, T_count_16, T_visible_16⟩ b16 hm hk16 hr16
  replace hm : mX0_lay_b16 F x2 q1_count q1_weights q1_xs q1_ys r1 x4_16 T_count_16 T_visible_16 = some b16 := hm
  unfold mX0_lay_b16 at hm
  show G X 16 [(0, .ref aT), (1, .ref aq1), (2, .int x2), (3, .int r1), (4, .int x4_16)] [] [(aT, .inr (0, [.int T_count_16, .ref aT_visible, .ref aT_holders])), (aq1, .inr (5, [.int q1_count, .ref aq1_sets, .ref aq1_weights, .ref aq1_xs, .ref aq1_ys, .ref aq1_groupAt])), (aT_holders, .inl (cI, 24, .inl T_holders)), (aT_visible, .inl (cI, 24, .inl T_visible_16)), (aq1_weights, .inl (cI, 24, .inl q1_weights)), (aq1_xs, .inl (cI, 24, .inl q1_xs)), (aq1_ys, .inl (cI, 24, .inl q1_ys))]
  refine r_iload S dX0_lay_16 4 rfl ?_
  refine r_aload_n S dX0_lay_18 rfl 1 rfl ?_
  refine r_get (T := TX5) (ci := 5) S (tlA inlX5) rfl 1 rfl 0 (Nat.le_of_ble_eq_true rfl) (tl u1060) rfl dX0_lay_19 ?_
  refine r_icmp_ge 78 S dX0_lay_22 (by decide) (fun c3 => ?_) (fun c3 => ?_)
  · replace hm := iT c3 hm
    refine r_lv [0, 1] (lv' := [(0, .ref aT), (1, .ref aq1)]) rfl ?_
    exact hE16_78 (T_count_16, T_visible_16) (hr16 _ (Option.some.inj hm).symm)
  · replace hm := iF c3 hm
    refine r_aload_n S dX0_lay_25 rfl 1 rfl ?_
    refine r_iload_n S dX0_lay_26 rfl 3 rfl ?_
    refine r_iload S dX0_lay_27 4 rfl ?_
    obtain ⟨r4, h_r4, hm⟩ := bS hm
    refine r_calliV S (c_X5_heaviest l0 D0 cI cJ cZ cY F aq1 aq1_sets aq1_weights aq1_xs aq1_ys aq1_groupAt q1_count q1_weights r1 x4_16 _ h_r4) (gV u1064 u823 u824 u20 u825) ok_X5_heaviest ⟨rfl, rfl⟩ ⟨Nat.le_of_ble_eq_true rfl, Nat.le_of_ble_eq_true rfl⟩ [1, 4] [0, 2, 3, 5, 6] rfl (wr := [(aT, .inr (0, [.int T_count_16, .ref aT_visible, .ref aT_holders])), (aT_holders, .inl (cI, 24, .inl T_holders)), (aT_visible, .inl (cI, 24, .inl T_visible_16)), (aq1_xs, .inl (cI, 24, .inl q1_xs)), (aq1_ys, .inl (cI, 24, .inl q1_ys))]) rfl rfl rfl (by decide) (ci := 5) (T := TX5) 0 rfl rfl (ws' := [(aT, .inr (0, [.int T_count_16, .ref aT_visible, .ref aT_holders])), (aT_holders, .inl (cI, 24, .inl T_holders)), (aT_visible, .inl (cI, 24, .inl T_visible_16)), (aq1_xs, .inl (cI, 24, .inl q1_xs)), (aq1_ys, .inl (cI, 24, .inl q1_ys)), (aq1, .inr (5, [.int q1_count, .ref aq1_sets, .ref aq1_weights, .ref aq1_xs, .ref aq1_ys, .ref aq1_groupAt])), (aq1_weights, .inl (cI, 24, .inl q1_weights))]) rfl (As := [.int r1, .int x4_16]) (rest := []) rfl rfl (Nat.le_of_ble_eq_true rfl) dX0_lay_29 ?_
    refine r_istore S dX0_lay_32 (Nat.le_of_ble_eq_true rfl) (lv' := [(5, .int r4), (0, .ref aT), (1, .ref aq1), (2, .int x2), (3, .int r1), (4, .int x4_16)]) rfl ?_
    refine r_iload S dX0_lay_34 0 rfl ?_
    refine r_iconst (v := (-1 : Int32)) S dX0_lay_36 rfl ?_
    refine r_icmp_eq 72 S dX0_lay_37 (by decide) (fun c5 => ?_) (fun c5 => ?_)
    · replace hm := iT c5 hm
      refine r_iincc S dX0_lay_72 5 rfl (c0 := (1 : Int32)) rfl rfl (Nat.le_of_ble_eq_true rfl) (lv' := [(4, .int (x4_16 + (1 : Int32))), (5, .int r4), (0, .ref aT), (1, .ref aq1), (2, .int x2), (3, .int r1)]) rfl ?_
      refine r_goto 16 S dX0_lay_75 (by decide) ?_
      refine r_perm [0, 5, 1, 2, 6, 3, 4] (ws' := [(aT, .inr (0, [.int T_count_16, .ref aT_visible, .ref aT_holders])), (aq1, .inr (5, [.int q1_count, .ref aq1_sets, .ref aq1_weights, .ref aq1_xs, .ref aq1_ys, .ref aq1_groupAt])), (aT_holders, .inl (cI, 24, .inl T_holders)), (aT_visible, .inl (cI, 24, .inl T_visible_16)), (aq1_weights, .inl (cI, 24, .inl q1_weights)), (aq1_xs, .inl (cI, 24, .inl q1_xs)), (aq1_ys, .inl (cI, 24, .inl q1_ys))]) rfl rfl ?_
      refine r_lv [2, 3, 4, 5, 0] (lv' := [(0, .ref aT), (1, .ref aq1), (2, .int x2), (3, .int r1), (4, .int (x4_16 + (1 : Int32)))]) rfl ?_
      exact hk16 ((x4_16 + (1 : Int32)), T_count_16, T_visible_16) (Option.some.inj hm).symm
    · replace hm := iF c5 hm
      refine r_aload_n S dX0_lay_40 rfl 1 rfl ?_
      refine r_aload_n S dX0_lay_41 rfl 2 rfl ?_
      refine r_iload S dX0_lay_42 0 rfl ?_
      refine r_iload_n S dX0_lay_44 rfl 3 rfl ?_
      obtain ⟨r6, h_r6, hm⟩ := bS hm
      refine r_callzV S (c_X0_isClear l0 D0 cI cJ cZ cY F aT aq1 aT_visible aT_holders aq1_sets aq1_weights aq1_xs aq1_ys aq1_groupAt T_count_16 q1_count T_visible_16 q1_xs q1_ys r4 x2 _ h_r6) (gV u1065 u1066 u1067 u25 u1068) ok_X0_isClear ⟨rfl, rfl⟩ ⟨Nat.le_of_ble_eq_true rfl, Nat.le_of_ble_eq_true rfl⟩ [0, 5, 2, 3, 4] [1, 6] rfl (wr := [(aT_holders, .inl (cI, 24, .inl T_holders)), (aq1_weights, .inl (cI, 24, .inl q1_weights))]) rfl rfl rfl (by decide) (ci := 0) (T := TX0) 0 rfl rfl (ws' := [(aT_holders, .inl (cI, 24, .inl T_holders)), (aq1_weights, .inl (cI, 24, .inl q1_weights)), (aT, .inr (0, [.int T_count_16, .ref aT_visible, .ref aT_holders])), (aq1, .inr (5, [.int q1_count, .ref aq1_sets, .ref aq1_weights, .ref aq1_xs, .ref aq1_ys, .ref aq1_groupAt])), (aT_visible, .inl (cI, 24, .inl T_visible_16)), (aq1_xs, .inl (cI, 24, .inl q1_xs)), (aq1_ys, .inl (cI, 24, .inl q1_ys))]) rfl (As := [.ref aq1, .int r4, .int x2]) (rest := []) rfl rfl (Nat.le_of_ble_eq_true rfl) dX0_lay_45 (fun hz_r6 => ?_)
      refine r_if_eq 72 S dX0_lay_48 (by decide) (fun c7 => ?_) (fun c7 => ?_)
      · replace hm := iT c7 hm
        refine r_iincc S dX0_lay_72 5 rfl (c0 := (1 : Int32)) rfl rfl (Nat.le_of_ble_eq_true rfl) (lv' := [(4, .int (x4_16 + (1 : Int32))), (5, .int r4), (0, .ref aT), (1, .ref aq1), (2, .int x2), (3, .int r1)]) rfl ?_
        refine r_goto 16 S dX0_lay_75 (by decide) ?_
        refine r_perm [2, 3, 0, 4, 1, 5, 6] (ws' := [(aT, .inr (0, [.int T_count_16, .ref aT_visible, .ref aT_holders])), (aq1, .inr (5, [.int q1_count, .ref aq1_sets, .ref aq1_weights, .ref aq1_xs, .ref aq1_ys, .ref aq1_groupAt])), (aT_holders, .inl (cI, 24, .inl T_holders)), (aT_visible, .inl (cI, 24, .inl T_visible_16)), (aq1_weights, .inl (cI, 24, .inl q1_weights)), (aq1_xs, .inl (cI, 24, .inl q1_xs)), (aq1_ys, .inl (cI, 24, .inl q1_ys))]) rfl rfl ?_
        refine r_lv [2, 3, 4, 5, 0] (lv' := [(0, .ref aT), (1, .ref aq1), (2, .int x2), (3, .int r1), (4, .int (x4_16 + (1 : Int32)))]) rfl ?_
        exact hk16 ((x4_16 + (1 : Int32)), T_count_16, T_visible_16) (Option.some.inj hm).symm
      · replace hm := iF c7 hm
        refine r_aload_n S dX0_lay_51 rfl 1 rfl ?_
        refine r_get (T := TX0) (ci := 0) S (tlA inlX0) rfl 2 rfl 1 (Nat.le_of_ble_eq_true rfl) (tl u89) rfl dX0_lay_52 ?_
        refine r_aload_n S dX0_lay_55 rfl 1 rfl ?_
        refine r_get (T := TX0) (ci := 0) S (tlA inlX0) rfl 2 rfl 0 (Nat.le_of_ble_eq_true rfl) (tl u88) rfl dX0_lay_56 ?_
        refine r_iload S dX0_lay_59 0 rfl ?_
        obtain ⟨g8, h_g8, hm⟩ := bS hm
        refine r_iast S h_g8 4 0 rfl rfl (ws' := [(aT_holders, .inl (cI, 24, .inl T_holders)), (aq1_weights, .inl (cI, 24, .inl q1_weights)), (aT, .inr (0, [.int T_count_16, .ref aT_visible, .ref aT_holders])), (aq1, .inr (5, [.int q1_count, .ref aq1_sets, .ref aq1_weights, .ref aq1_xs, .ref aq1_ys, .ref aq1_groupAt])), (aT_visible, .inl (cI, 24, .inl g8)), (aq1_xs, .inl (cI, 24, .inl q1_xs)), (aq1_ys, .inl (cI, 24, .inl q1_ys))]) rfl dX0_lay_61 ?_
        refine r_aload_n S dX0_lay_62 rfl 1 rfl ?_
        refine r_dup S dX0_lay_63 rfl ?_
        refine r_get (T := TX0) (ci := 0) S (tlA inlX0) rfl 2 rfl 0 (Nat.le_of_ble_eq_true rfl) (tl u88) rfl dX0_lay_64 ?_
        refine r_iconst (v := (1 : Int32)) S dX0_lay_67 rfl ?_
        refine r_iadd S dX0_lay_68 ?_
        obtain ⟨v9, h_v9, hm⟩ := bS hm
        refine r_topI h_v9 ?_
        refine r_put (T := TX0) (ci := 0) S (tlA inlX0) tyX0 tyX0_ok nmX0 rfl 2 rfl 0 (Nat.le_of_ble_eq_true rfl) (tl u88) rfl rfl rfl (Nat.le_of_ble_eq_true rfl) (ws' := [(aT_holders, .inl (cI, 24, .inl T_holders)), (aq1_weights, .inl (cI, 24, .inl q1_weights)), (aT, .inr (0, [.int v9, .ref aT_visible, .ref aT_holders])), (aq1, .inr (5, [.int q1_count, .ref aq1_sets, .ref aq1_weights, .ref aq1_xs, .ref aq1_ys, .ref aq1_groupAt])), (aT_visible, .inl (cI, 24, .inl g8)), (aq1_xs, .inl (cI, 24, .inl q1_xs)), (aq1_ys, .inl (cI, 24, .inl q1_ys))]) rfl dX0_lay_69 ?_
        refine r_iincc S dX0_lay_72 5 rfl (c0 := (1 : Int32)) rfl rfl (Nat.le_of_ble_eq_true rfl) (lv' := [(4, .int (x4_16 + (1 : Int32))), (5, .int r4), (0, .ref aT), (1, .ref aq1), (2, .int x2), (3, .int r1)]) rfl ?_
        refine r_goto 16 S dX0_lay_75 (by decide) ?_
        refine r_perm [2, 3, 0, 4, 1, 5, 6] (ws' := [(aT, .inr (0, [.int v9, .ref aT_visible, .ref aT_holders])), (aq1, .inr (5, [.int q1_count, .ref aq1_sets, .ref aq1_weights, .ref aq1_xs, .ref aq1_ys, .ref aq1_groupAt])), (aT_holders, .inl (cI, 24, .inl T_holders)), (aT_visible, .inl (cI, 24, .inl g8)), (aq1_weights, .inl (cI, 24, .inl q1_weights)), (aq1_xs, .inl (cI, 24, .inl q1_xs)), (aq1_ys, .inl (cI, 24, .inl q1_ys))]) rfl rfl ?_
        refine r_lv [2, 3, 4, 5, 0] (lv' := [(0, .ref aT), (1, .ref aq1), (2, .int x2), (3, .int r1), (4, .int (x4_16 + (1 : Int32)))]) rfl ?_
        exact hk16 ((x4_16 + (1 : Int32)), v9, g8) (Option.some.inj hm).symm
def wtX0_countedWith : List Cond := Cond.code yX0_countedWith cX0_countedWith 5 (some .int) :: wsL_law
theorem ok_X0_countedWith : CallOK yX0_countedWith wtX0_countedWith RX0 2 5 := ⟨⟨_, _, _, rfl⟩, rfl, ⟨by decide +kernel, by decide +kernel⟩, by decide +kernel⟩
set_option maxRecDepth 100000 in
set_option maxHeartbeats 4000000 in
theorem c_X0_countedWith (l0 : Launch) (D0 : va_G) (cI cJ cZ cY : ClassId) (F : Nat) (aT aT_visible aT_holders : Nat) (T_count : Int32) (T_holders : Nat → Int32) (x1 : Int32) (x2 : Int32) (res : Int32) (hm : mX0_countedWith F x1 x2 T_holders = some res) : Ci D0 [(cI, .int), (cJ, .long), (cZ, .boolean), (cY, .array .int)] l0 yX0_countedWith wtX0_countedWith ({ frames := 0, cells := 0, slots := 0, locals := 0 }) [.ref aT, .int x1, .int x2] (res) [(aT, .inr (0, [.int T_count, .ref aT_visible, .ref aT_holders])), (aT_holders, .inl (cI, 24, .inl T_holders))] [(aT, .inr (0, [.int T_count, .ref aT_visible, .ref aT_holders])), (aT_holders, .inl (cI, 24, .inl T_holders))] := by
  refine Ci.ofi cX0_countedWith 5 (own := RX0) (by decide +kernel) rfl rfl (Nat.le_of_ble_eq_true rfl) ?_
  intro X S hR0
  have hR : ∀ (r9 : Int32) (pc : Nat) (lv : List (Nat × Value)), some r9 = some res → decode cX0_countedWith pc = .ok (.ireturn, 1) → G X pc lv [.int (r9)] [(aT, .inr (0, [.int T_count, .ref aT_visible, .ref aT_holders])), (aT_holders, .inl (cI, 24, .inl T_holders))] := fun r9 pc lv h9 hd => by cases h9; exact hR0 pc lv hd
  show G X 0 [(0, .ref aT), (1, .int x1), (2, .int x2)] [] [(aT, .inr (0, [.int T_count, .ref aT_visible, .ref aT_holders])), (aT_holders, .inl (cI, 24, .inl T_holders))]
  unfold mX0_countedWith at hm
  refine r_iconst (v := (0 : Int32)) S dX0_countedWith_0 rfl ?_
  refine r_istore_n S dX0_countedWith_1 rfl (Nat.le_of_ble_eq_true rfl) (lv' := [(3, .int (0 : Int32)), (0, .ref aT), (1, .int x1), (2, .int x2)]) rfl ?_
  refine r_iconst (v := (0 : Int32)) S dX0_countedWith_2 rfl ?_
  refine r_istore S dX0_countedWith_3 (Nat.le_of_ble_eq_true rfl) (lv' := [(4, .int (0 : Int32)), (3, .int (0 : Int32)), (0, .ref aT), (1, .int x1), (2, .int x2)]) rfl ?_
  have hR5 : ∀ (r9 : Int32) (pc : Nat) (lv : List (Nat × Value)), r9 = res → decode cX0_countedWith pc = .ok (.ireturn, 1) → G X pc lv [.int (r9)] [(aT, .inr (0, [.int T_count, .ref aT_visible, .ref aT_holders])), (aT_holders, .inl (cI, 24, .inl T_holders))] := fun r9 pc lv h9 hd => hR r9 pc lv (congrArg some h9) hd
  refine r_lv [2, 3, 4, 1, 0] (lv' := [(0, .ref aT), (1, .int x1), (2, .int x2), (3, .int (0 : Int32)), (4, .int (0 : Int32))]) rfl ?_
  refine loopG (r0 := res) (Gd := fun s9 => G X 5 [(0, .ref aT), (1, .int x1), (2, .int x2), (3, .int s9.1), (4, .int s9.2)] [] [(aT, .inr (0, [.int T_count, .ref aT_visible, .ref aT_holders])), (aT_holders, .inl (cI, 24, .inl T_holders))]) ?_ _ _ hm
  rintro ⟨x3_5, x4_5⟩ b5 hm hk5 hr5
  replace hm : mX0_countedWith_b5 F x1 x2 T_holders x3_5 x4_5 = some b5 := hm
  unfold mX0_countedWith_b5 at hm
  show G X 5 [(0, .ref aT), (1, .int x1), (2, .int x2), (3, .int x3_5), (4, .int x4_5)] [] [(aT, .inr (0, [.int T_count, .ref aT_visible, .ref aT_holders])), (aT_holders, .inl (cI, 24, .inl T_holders))]
  refine r_iload S dX0_countedWith_5 4 rfl ?_
  refine r_iload_n S dX0_countedWith_7 rfl 2 rfl ?_
  refine r_icmp_ge 35 S dX0_countedWith_8 (by decide) (fun c2 => ?_) (fun c2 => ?_)
  · replace hm := iT c2 hm
    refine r_iload_n S dX0_countedWith_35 rfl 3 rfl ?_
    exact hR5 x3_5 _ _ (hr5 _ (Option.some.inj hm).symm) dX0_countedWith_36
  · replace hm := iF c2 hm
    refine r_aload_n S dX0_countedWith_11 rfl 0 rfl ?_
    refine r_get (T := TX0) (ci := 0) S (tlA inlX0) rfl 0 rfl 2 (Nat.le_of_ble_eq_true rfl) (tl u90) rfl dX0_countedWith_12 ?_
    refine r_iload S dX0_countedWith_15 4 rfl ?_
    obtain ⟨v3, h_v3, hm⟩ := bS hm
    refine r_iald S h_v3 1 0 rfl rfl dX0_countedWith_17 ?_
    refine r_iload_n S dX0_countedWith_18 rfl 1 rfl ?_
    refine r_icmp_ne 29 S dX0_countedWith_19 (by decide) (fun c4 => ?_) (fun c4 => ?_)
    · replace hm := iF c4 hm
      refine r_iincc S dX0_countedWith_29 4 rfl (c0 := (1 : Int32)) rfl rfl (Nat.le_of_ble_eq_true rfl) (lv' := [(4, .int (x4_5 + (1 : Int32))), (0, .ref aT), (1, .int x1), (2, .int x2), (3, .int x3_5)]) rfl ?_
      refine r_goto 5 S dX0_countedWith_32 (by decide) ?_
      refine r_lv [1, 2, 3, 4, 0] (lv' := [(0, .ref aT), (1, .int x1), (2, .int x2), (3, .int x3_5), (4, .int (x4_5 + (1 : Int32)))]) rfl ?_
      exact hk5 (x3_5, (x4_5 + (1 : Int32))) (Option.some.inj hm).symm
    · replace hm := iT c4 hm
      refine r_iload_n S dX0_countedWith_22 rfl 3 rfl ?_
      refine r_iconst (v := (1 : Int32)) S dX0_countedWith_23 rfl ?_
      refine r_iload S dX0_countedWith_24 4 rfl ?_
      refine r_ishl S dX0_countedWith_26 ?_
      refine r_ior S dX0_countedWith_27 ?_
      obtain ⟨v5, h_v5, hm⟩ := bS hm
      refine r_topI h_v5 ?_
      refine r_istore_n S dX0_countedWith_28 rfl (Nat.le_of_ble_eq_true rfl) (lv' := [(3, .int v5), (0, .ref aT), (1, .int x1), (2, .int x2), (4, .int x4_5)]) rfl ?_
      refine r_iincc S dX0_countedWith_29 4 rfl (c0 := (1 : Int32)) rfl rfl (Nat.le_of_ble_eq_true rfl) (lv' := [(4, .int (x4_5 + (1 : Int32))), (3, .int v5), (0, .ref aT), (1, .int x1), (2, .int x2)]) rfl ?_
      refine r_goto 5 S dX0_countedWith_32 (by decide) ?_
      refine r_lv [2, 3, 4, 1, 0] (lv' := [(0, .ref aT), (1, .int x1), (2, .int x2), (3, .int v5), (4, .int (x4_5 + (1 : Int32)))]) rfl ?_
      exact hk5 (v5, (x4_5 + (1 : Int32))) (Option.some.inj hm).symm
def wtX2_joinOf : List Cond := Cond.code yX2_joinOf cX2_joinOf 1 (some .int) :: wsL_law
theorem ok_X2_joinOf : CallOK yX2_joinOf wtX2_joinOf RX2 1 1 := ⟨⟨_, _, _, rfl⟩, rfl, ⟨by decide +kernel, by decide +kernel⟩, by decide +kernel⟩
set_option maxRecDepth 100000 in
set_option maxHeartbeats 4000000 in
theorem c_X2_joinOf (l0 : Launch) (D0 : va_G) (cI cJ cZ cY : ClassId) (F : Nat) (x0 : Int32) (res : Int32) (hm : mX2_joinOf F x0 = some res) : Ci D0 [(cI, .int), (cJ, .long), (cZ, .boolean), (cY, .array .int)] l0 yX2_joinOf wtX2_joinOf ({ frames := 0, cells := 0, slots := 0, locals := 0 }) [.int x0] (res) [] [] := by
  refine Ci.ofi cX2_joinOf 1 (own := RX2) (by decide +kernel) rfl rfl (Nat.le_of_ble_eq_true rfl) ?_
  intro X S hR0
  have hR : ∀ (r9 : Int32) (pc : Nat) (lv : List (Nat × Value)), some r9 = some res → decode cX2_joinOf pc = .ok (.ireturn, 1) → G X pc lv [.int (r9)] [] := fun r9 pc lv h9 hd => by cases h9; exact hR0 pc lv hd
  show G X 0 [(0, .int x0)] [] []
  unfold mX2_joinOf at hm
  refine r_iload_n S dX2_joinOf_0 rfl 0 rfl ?_
  refine r_bipush (v := (100 : Int32)) S dX2_joinOf_1 rfl ?_
  refine r_icmp_lt 19 S dX2_joinOf_3 (by decide) (fun c1 => ?_) (fun c1 => ?_)
  · replace hm := iT c1 hm
    refine r_iconst (v := (-1 : Int32)) S dX2_joinOf_19 rfl ?_
    exact hR (-1 : Int32) _ _ hm dX2_joinOf_20
  · replace hm := iF c1 hm
    refine r_iload_n S dX2_joinOf_6 rfl 0 rfl ?_
    refine r_bipush (v := (124 : Int32)) S dX2_joinOf_7 rfl ?_
    refine r_icmp_ge 19 S dX2_joinOf_9 (by decide) (fun c2 => ?_) (fun c2 => ?_)
    · replace hm := iT c2 hm
      refine r_iconst (v := (-1 : Int32)) S dX2_joinOf_19 rfl ?_
      exact hR (-1 : Int32) _ _ hm dX2_joinOf_20
    · replace hm := iF c2 hm
      refine r_iload_n S dX2_joinOf_12 rfl 0 rfl ?_
      refine r_bipush (v := (100 : Int32)) S dX2_joinOf_13 rfl ?_
      refine r_isub S dX2_joinOf_15 ?_
      refine r_goto 20 S dX2_joinOf_16 (by decide) ?_
      exact hR (x0 - (100 : Int32)) _ _ hm dX2_joinOf_20
def wtX2_joinAbove : List Cond := Cond.code yX2_joinAbove cX2_joinAbove 3 (some .int) :: wsL_law
theorem ok_X2_joinAbove : CallOK yX2_joinAbove wtX2_joinAbove RX2 1 3 := ⟨⟨_, _, _, rfl⟩, rfl, ⟨by decide +kernel, by decide +kernel⟩, by decide +kernel⟩
set_option maxRecDepth 100000 in
set_option maxHeartbeats 4000000 in
theorem c_X2_joinAbove (l0 : Launch) (D0 : va_G) (cI cJ cZ cY : ClassId) (F : Nat) (aT aT_points aT_keys aT_aparts aT_roots aT_firsts aT_seconds aT_parts aT_firstSides aT_otherSides aT_joinsAbove aT_pointsAbove aT_pairs aT_links aT_nodes : Nat) (T_count : Int32) (T_joinsAbove : Nat → Int32) (T_pointsAbove : Nat → Int32) (x1 : Int32) (res : Int32) (hm : mX2_joinAbove F x1 T_joinsAbove T_pointsAbove = some res) : Ci D0 [(cI, .int), (cJ, .long), (cZ, .boolean), (cY, .array .int)] l0 yX2_joinAbove wtX2_joinAbove ({ frames := 1, cells := 0, slots := 0, locals := 20 }) [.ref aT, .int x1] (res) [(aT, .inr (2, [.ref aT_points, .int T_count, .ref aT_keys, .ref aT_aparts, .ref aT_roots, .ref aT_firsts, .ref aT_seconds, .ref aT_parts, .ref aT_firstSides, .ref aT_otherSides, .ref aT_joinsAbove, .ref aT_pointsAbove, .ref aT_pairs, .ref aT_links, .ref aT_nodes])), (aT_joinsAbove, .inl (cI, 24, .inl T_joinsAbove)), (aT_pointsAbove, .inl (cI, 24, .inl T_pointsAbove))] [(aT, .inr (2, [.ref aT_points, .int T_count, .ref aT_keys, .ref aT_aparts, .ref aT_roots, .ref aT_firsts, .ref aT_seconds, .ref aT_parts, .ref aT_firstSides, .ref aT_otherSides, .ref aT_joinsAbove, .ref aT_pointsAbove, .ref aT_pairs, .ref aT_links, .ref aT_nodes])), (aT_joinsAbove, .inl (cI, 24, .inl T_joinsAbove)), (aT_pointsAbove, .inl (cI, 24, .inl T_pointsAbove))] := by
  refine Ci.ofi cX2_joinAbove 3 (own := RX2) (by decide +kernel) rfl rfl (Nat.le_of_ble_eq_true rfl) ?_
  intro X S hR0
  have hR : ∀ (r9 : Int32) (pc : Nat) (lv : List (Nat × Value)), some r9 = some res → decode cX2_joinAbove pc = .ok (.ireturn, 1) → G X pc lv [.int (r9)] [(aT, .inr (2, [.ref aT_points, .int T_count, .ref aT_keys, .ref aT_aparts, .ref aT_roots, .ref aT_firsts, .ref aT_seconds, .ref aT_parts, .ref aT_firstSides, .ref aT_otherSides, .ref aT_joinsAbove, .ref aT_pointsAbove, .ref aT_pairs, .ref aT_links, .ref aT_nodes])), (aT_joinsAbove, .inl (cI, 24, .inl T_joinsAbove)), (aT_pointsAbove, .inl (cI, 24, .inl T_pointsAbove))] := fun r9 pc lv h9 hd => by cases h9; exact hR0 pc lv hd
  show G X 0 [(0, .ref aT), (1, .int x1)] [] [(aT, .inr (2, [.ref aT_points, .int T_count, .ref aT_keys, .ref aT_aparts, .ref aT_roots, .ref aT_firsts, .ref aT_seconds, .ref aT_parts, .ref aT_firstSides, .ref aT_otherSides, .ref aT_joinsAbove, .ref aT_pointsAbove, .ref aT_pairs, .ref aT_links, .ref aT_nodes])), (aT_joinsAbove, .inl (cI, 24, .inl T_joinsAbove)), (aT_pointsAbove, .inl (cI, 24, .inl T_pointsAbove))]
  unfold mX2_joinAbove at hm
  refine r_iload_n S dX2_joinAbove_0 rfl 1 rfl ?_
  obtain ⟨r1, h_r1, hm⟩ := bS hm
  refine r_calliS S (c_X2_joinOf l0 D0 cI cJ cZ cY F x1 _ h_r1) (gS u239 u240 u14 u241) ok_X2_joinOf ⟨rfl, rfl⟩ ⟨Nat.le_of_ble_eq_true rfl, Nat.le_of_ble_eq_true rfl⟩ [] [0, 1, 2] rfl (wr := [(aT, .inr (2, [.ref aT_points, .int T_count, .ref aT_keys, .ref aT_aparts, .ref aT_roots, .ref aT_firsts, .ref aT_seconds, .ref aT_parts, .ref aT_firstSides, .ref aT_otherSides, .ref aT_joinsAbove, .ref aT_pointsAbove, .ref aT_pairs, .ref aT_links, .ref aT_nodes])), (aT_joinsAbove, .inl (cI, 24, .inl T_joinsAbove)), (aT_pointsAbove, .inl (cI, 24, .inl T_pointsAbove))]) rfl rfl rfl (by decide) (ws' := [(aT, .inr (2, [.ref aT_points, .int T_count, .ref aT_keys, .ref aT_aparts, .ref aT_roots, .ref aT_firsts, .ref aT_seconds, .ref aT_parts, .ref aT_firstSides, .ref aT_otherSides, .ref aT_joinsAbove, .ref aT_pointsAbove, .ref aT_pairs, .ref aT_links, .ref aT_nodes])), (aT_joinsAbove, .inl (cI, 24, .inl T_joinsAbove)), (aT_pointsAbove, .inl (cI, 24, .inl T_pointsAbove))]) rfl (As := [.int x1]) (rest := []) rfl rfl (Nat.le_of_ble_eq_true rfl) dX2_joinAbove_1 ?_
  refine r_istore_n S dX2_joinAbove_4 rfl (Nat.le_of_ble_eq_true rfl) (lv' := [(2, .int r1), (0, .ref aT), (1, .int x1)]) rfl ?_
  refine r_iload_n S dX2_joinAbove_5 rfl 0 rfl ?_
  refine r_iconst (v := (-1 : Int32)) S dX2_joinAbove_6 rfl ?_
  refine r_icmp_eq 17 S dX2_joinAbove_7 (by decide) (fun c2 => ?_) (fun c2 => ?_)
  · replace hm := iT c2 hm
    refine r_iload_n S dX2_joinAbove_17 rfl 2 rfl ?_
    refine r_if_lt 36 S dX2_joinAbove_18 (by decide) (fun c3 => ?_) (fun c3 => ?_)
    · replace hm := iT c3 hm
      refine r_iconst (v := (-1 : Int32)) S dX2_joinAbove_36 rfl ?_
      exact hR (-1 : Int32) _ _ hm dX2_joinAbove_37
    · replace hm := iF c3 hm
      refine r_iload_n S dX2_joinAbove_21 rfl 2 rfl ?_
      refine r_bipush (v := (24 : Int32)) S dX2_joinAbove_22 rfl ?_
      refine r_icmp_ge 36 S dX2_joinAbove_24 (by decide) (fun c4 => ?_) (fun c4 => ?_)
      · replace hm := iT c4 hm
        refine r_iconst (v := (-1 : Int32)) S dX2_joinAbove_36 rfl ?_
        exact hR (-1 : Int32) _ _ hm dX2_joinAbove_37
      · replace hm := iF c4 hm
        refine r_aload_n S dX2_joinAbove_27 rfl 1 rfl ?_
        refine r_get (T := TX2) (ci := 2) S (tlA inlX2) rfl 0 rfl 11 (Nat.le_of_ble_eq_true rfl) (tl u62) rfl dX2_joinAbove_28 ?_
        refine r_iload_n S dX2_joinAbove_31 rfl 2 rfl ?_
        obtain ⟨v5, h_v5, hm⟩ := bS hm
        refine r_iald S h_v5 2 0 rfl rfl dX2_joinAbove_32 ?_
        refine r_goto 37 S dX2_joinAbove_33 (by decide) ?_
        exact hR v5 _ _ hm dX2_joinAbove_37
  · replace hm := iF c2 hm
    refine r_aload_n S dX2_joinAbove_10 rfl 1 rfl ?_
    refine r_get (T := TX2) (ci := 2) S (tlA inlX2) rfl 0 rfl 10 (Nat.le_of_ble_eq_true rfl) (tl u61) rfl dX2_joinAbove_11 ?_
    refine r_iload_n S dX2_joinAbove_14 rfl 0 rfl ?_
    obtain ⟨v6, h_v6, hm⟩ := bS hm
    refine r_iald S h_v6 1 0 rfl rfl dX2_joinAbove_15 ?_
    exact hR v6 _ _ hm dX2_joinAbove_16
def wtX2_setOf : List Cond := Cond.code yX2_setOf cX2_setOf 3 (some .int) :: wsL_law
theorem ok_X2_setOf : CallOK yX2_setOf wtX2_setOf RX2 1 3 := ⟨⟨_, _, _, rfl⟩, rfl, ⟨by decide +kernel, by decide +kernel⟩, by decide +kernel⟩
set_option maxRecDepth 100000 in
set_option maxHeartbeats 4000000 in
theorem c_X2_setOf (l0 : Launch) (D0 : va_G) (cI cJ cZ cY : ClassId) (F : Nat) (aT aT_points aT_keys aT_aparts aT_roots aT_firsts aT_seconds aT_parts aT_firstSides aT_otherSides aT_joinsAbove aT_pointsAbove aT_pairs aT_links aT_nodes : Nat) (T_count : Int32) (T_parts : Nat → Int32) (x1 : Int32) (res : Int32) (hm : mX2_setOf F x1 T_parts = some res) : Ci D0 [(cI, .int), (cJ, .long), (cZ, .boolean), (cY, .array .int)] l0 yX2_setOf wtX2_setOf ({ frames := 1, cells := 0, slots := 0, locals := 20 }) [.ref aT, .int x1] (res) [(aT, .inr (2, [.ref aT_points, .int T_count, .ref aT_keys, .ref aT_aparts, .ref aT_roots, .ref aT_firsts, .ref aT_seconds, .ref aT_parts, .ref aT_firstSides, .ref aT_otherSides, .ref aT_joinsAbove, .ref aT_pointsAbove, .ref aT_pairs, .ref aT_links, .ref aT_nodes])), (aT_parts, .inl (cI, 24, .inl T_parts))] [(aT, .inr (2, [.ref aT_points, .int T_count, .ref aT_keys, .ref aT_aparts, .ref aT_roots, .ref aT_firsts, .ref aT_seconds, .ref aT_parts, .ref aT_firstSides, .ref aT_otherSides, .ref aT_joinsAbove, .ref aT_pointsAbove, .ref aT_pairs, .ref aT_links, .ref aT_nodes])), (aT_parts, .inl (cI, 24, .inl T_parts))] := by
  refine Ci.ofi cX2_setOf 3 (own := RX2) (by decide +kernel) rfl rfl (Nat.le_of_ble_eq_true rfl) ?_
  intro X S hR0
  have hR : ∀ (r9 : Int32) (pc : Nat) (lv : List (Nat × Value)), some r9 = some res → decode cX2_setOf pc = .ok (.ireturn, 1) → G X pc lv [.int (r9)] [(aT, .inr (2, [.ref aT_points, .int T_count, .ref aT_keys, .ref aT_aparts, .ref aT_roots, .ref aT_firsts, .ref aT_seconds, .ref aT_parts, .ref aT_firstSides, .ref aT_otherSides, .ref aT_joinsAbove, .ref aT_pointsAbove, .ref aT_pairs, .ref aT_links, .ref aT_nodes])), (aT_parts, .inl (cI, 24, .inl T_parts))] := fun r9 pc lv h9 hd => by cases h9; exact hR0 pc lv hd
  show G X 0 [(0, .ref aT), (1, .int x1)] [] [(aT, .inr (2, [.ref aT_points, .int T_count, .ref aT_keys, .ref aT_aparts, .ref aT_roots, .ref aT_firsts, .ref aT_seconds, .ref aT_parts, .ref aT_firstSides, .ref aT_otherSides, .ref aT_joinsAbove, .ref aT_pointsAbove, .ref aT_pairs, .ref aT_links, .ref aT_nodes])), (aT_parts, .inl (cI, 24, .inl T_parts))]
  unfold mX2_setOf at hm
  refine r_iload_n S dX2_setOf_0 rfl 1 rfl ?_
  obtain ⟨r1, h_r1, hm⟩ := bS hm
  refine r_calliS S (c_X2_joinOf l0 D0 cI cJ cZ cY F x1 _ h_r1) (gS u239 u240 u14 u241) ok_X2_joinOf ⟨rfl, rfl⟩ ⟨Nat.le_of_ble_eq_true rfl, Nat.le_of_ble_eq_true rfl⟩ [] [0, 1] rfl (wr := [(aT, .inr (2, [.ref aT_points, .int T_count, .ref aT_keys, .ref aT_aparts, .ref aT_roots, .ref aT_firsts, .ref aT_seconds, .ref aT_parts, .ref aT_firstSides, .ref aT_otherSides, .ref aT_joinsAbove, .ref aT_pointsAbove, .ref aT_pairs, .ref aT_links, .ref aT_nodes])), (aT_parts, .inl (cI, 24, .inl T_parts))]) rfl rfl rfl (by decide) (ws' := [(aT, .inr (2, [.ref aT_points, .int T_count, .ref aT_keys, .ref aT_aparts, .ref aT_roots, .ref aT_firsts, .ref aT_seconds, .ref aT_parts, .ref aT_firstSides, .ref aT_otherSides, .ref aT_joinsAbove, .ref aT_pointsAbove, .ref aT_pairs, .ref aT_links, .ref aT_nodes])), (aT_parts, .inl (cI, 24, .inl T_parts))]) rfl (As := [.int x1]) (rest := []) rfl rfl (Nat.le_of_ble_eq_true rfl) dX2_setOf_1 ?_
  refine r_istore_n S dX2_setOf_4 rfl (Nat.le_of_ble_eq_true rfl) (lv' := [(2, .int r1), (0, .ref aT), (1, .int x1)]) rfl ?_
  refine r_iload_n S dX2_setOf_5 rfl 0 rfl ?_
  refine r_iconst (v := (-1 : Int32)) S dX2_setOf_6 rfl ?_
  refine r_icmp_eq 19 S dX2_setOf_7 (by decide) (fun c2 => ?_) (fun c2 => ?_)
  · replace hm := iT c2 hm
    refine r_iconst (v := (1 : Int32)) S dX2_setOf_19 rfl ?_
    refine r_iload_n S dX2_setOf_20 rfl 2 rfl ?_
    refine r_ishl S dX2_setOf_21 ?_
    exact hR ((1 : Int32) <<< (x1 &&& 31)) _ _ hm dX2_setOf_22
  · replace hm := iF c2 hm
    refine r_aload_n S dX2_setOf_10 rfl 1 rfl ?_
    refine r_get (T := TX2) (ci := 2) S (tlA inlX2) rfl 0 rfl 7 (Nat.le_of_ble_eq_true rfl) (tl u58) rfl dX2_setOf_11 ?_
    refine r_iload_n S dX2_setOf_14 rfl 0 rfl ?_
    obtain ⟨v3, h_v3, hm⟩ := bS hm
    refine r_iald S h_v3 1 0 rfl rfl dX2_setOf_15 ?_
    refine r_goto 22 S dX2_setOf_16 (by decide) ?_
    exact hR v3 _ _ hm dX2_setOf_22
def wtX4_weightOf : List Cond := Cond.code yX4_weightOf cX4_weightOf 4 (some .int) :: wsL_law
theorem ok_X4_weightOf : CallOK yX4_weightOf wtX4_weightOf RX4 1 4 := ⟨⟨_, _, _, rfl⟩, rfl, ⟨by decide +kernel, by decide +kernel⟩, by decide +kernel⟩
set_option maxRecDepth 100000 in
set_option maxHeartbeats 4000000 in
theorem c_X4_weightOf (l0 : Launch) (D0 : va_G) (cI cJ cZ cY : ClassId) (F : Nat) (aT aT_xs aT_ys aT_ws : Nat) (T_count : Int32) (T_ws : Nat → Int32) (x1 : Int32) (res : Int32) (hm : mX4_weightOf F x1 T_count T_ws = some res) : Ci D0 [(cI, .int), (cJ, .long), (cZ, .boolean), (cY, .array .int)] l0 yX4_weightOf wtX4_weightOf ({ frames := 1, cells := 0, slots := 0, locals := 21 }) [.ref aT, .int x1] (res) [(aT, .inr (4, [.int T_count, .ref aT_xs, .ref aT_ys, .ref aT_ws])), (aT_ws, .inl (cI, 24, .inl T_ws))] [(aT, .inr (4, [.int T_count, .ref aT_xs, .ref aT_ys, .ref aT_ws])), (aT_ws, .inl (cI, 24, .inl T_ws))] := by
  refine Ci.ofi cX4_weightOf 4 (own := RX4) (by decide +kernel) rfl rfl (Nat.le_of_ble_eq_true rfl) ?_
  intro X S hR0
  have hR : ∀ (r9 : Int32) (pc : Nat) (lv : List (Nat × Value)), some r9 = some res → decode cX4_weightOf pc = .ok (.ireturn, 1) → G X pc lv [.int (r9)] [(aT, .inr (4, [.int T_count, .ref aT_xs, .ref aT_ys, .ref aT_ws])), (aT_ws, .inl (cI, 24, .inl T_ws))] := fun r9 pc lv h9 hd => by cases h9; exact hR0 pc lv hd
  show G X 0 [(0, .ref aT), (1, .int x1)] [] [(aT, .inr (4, [.int T_count, .ref aT_xs, .ref aT_ys, .ref aT_ws])), (aT_ws, .inl (cI, 24, .inl T_ws))]
  unfold mX4_weightOf at hm
  refine r_iconst (v := (0 : Int32)) S dX4_weightOf_0 rfl ?_
  refine r_istore_n S dX4_weightOf_1 rfl (Nat.le_of_ble_eq_true rfl) (lv' := [(2, .int (0 : Int32)), (0, .ref aT), (1, .int x1)]) rfl ?_
  refine r_iconst (v := (0 : Int32)) S dX4_weightOf_2 rfl ?_
  refine r_istore_n S dX4_weightOf_3 rfl (Nat.le_of_ble_eq_true rfl) (lv' := [(3, .int (0 : Int32)), (2, .int (0 : Int32)), (0, .ref aT), (1, .int x1)]) rfl ?_
  have hR4 : ∀ (r9 : Int32) (pc : Nat) (lv : List (Nat × Value)), r9 = res → decode cX4_weightOf pc = .ok (.ireturn, 1) → G X pc lv [.int (r9)] [(aT, .inr (4, [.int T_count, .ref aT_xs, .ref aT_ys, .ref aT_ws])), (aT_ws, .inl (cI, 24, .inl T_ws))] := fun r9 pc lv h9 hd => hR r9 pc lv (congrArg some h9) hd
  refine r_lv [2, 3, 1, 0] (lv' := [(0, .ref aT), (1, .int x1), (2, .int (0 : Int32)), (3, .int (0 : Int32))]) rfl ?_
  refine loopG (r0 := res) (Gd := fun s9 => G X 4 [(0, .ref aT), (1, .int x1), (2, .int s9.1), (3, .int s9.2)] [] [(aT, .inr (4, [.int T_count, .ref aT_xs, .ref aT_ys, .ref aT_ws])), (aT_ws, .inl (cI, 24, .inl T_ws))]) ?_ _ _ hm
  rintro ⟨x2_4, x3_4⟩ b4 hm hk4 hr4
  replace hm : mX4_weightOf_b4 F x1 T_count T_ws x2_4 x3_4 = some b4 := hm
  unfold mX4_weightOf_b4 at hm
  show G X 4 [(0, .ref aT), (1, .int x1), (2, .int x2_4), (3, .int x3_4)] [] [(aT, .inr (4, [.int T_count, .ref aT_xs, .ref aT_ys, .ref aT_ws])), (aT_ws, .inl (cI, 24, .inl T_ws))]
  refine r_iload_n S dX4_weightOf_4 rfl 3 rfl ?_
  refine r_aload_n S dX4_weightOf_5 rfl 0 rfl ?_
  refine r_get (T := TX4) (ci := 4) S (tlA inlX4) rfl 0 rfl 0 (Nat.le_of_ble_eq_true rfl) (tl u70) rfl dX4_weightOf_6 ?_
  refine r_icmp_ge 35 S dX4_weightOf_9 (by decide) (fun c2 => ?_) (fun c2 => ?_)
  · replace hm := iT c2 hm
    refine r_iload_n S dX4_weightOf_35 rfl 2 rfl ?_
    exact hR4 x2_4 _ _ (hr4 _ (Option.some.inj hm).symm) dX4_weightOf_36
  · replace hm := iF c2 hm
    refine r_iload_n S dX4_weightOf_12 rfl 1 rfl ?_
    refine r_iload_n S dX4_weightOf_13 rfl 3 rfl ?_
    obtain ⟨r3, h_r3, hm⟩ := bS hm
    refine r_callzS S (c_X6_has l0 D0 cI cJ cZ cY F x1 x3_4 _ h_r3) (gS u502 u214 u215 u216) ok_X6_has ⟨rfl, rfl⟩ ⟨Nat.le_of_ble_eq_true rfl, Nat.le_of_ble_eq_true rfl⟩ [] [0, 1] rfl (wr := [(aT, .inr (4, [.int T_count, .ref aT_xs, .ref aT_ys, .ref aT_ws])), (aT_ws, .inl (cI, 24, .inl T_ws))]) rfl rfl rfl (by decide) (ws' := [(aT, .inr (4, [.int T_count, .ref aT_xs, .ref aT_ys, .ref aT_ws])), (aT_ws, .inl (cI, 24, .inl T_ws))]) rfl (As := [.int x1, .int x3_4]) (rest := []) rfl rfl (Nat.le_of_ble_eq_true rfl) dX4_weightOf_14 (fun hz_r3 => ?_)
    refine r_if_eq 29 S dX4_weightOf_17 (by decide) (fun c4 => ?_) (fun c4 => ?_)
    · replace hm := iT c4 hm
      refine r_iincc S dX4_weightOf_29 3 rfl (c0 := (1 : Int32)) rfl rfl (Nat.le_of_ble_eq_true rfl) (lv' := [(3, .int (x3_4 + (1 : Int32))), (0, .ref aT), (1, .int x1), (2, .int x2_4)]) rfl ?_
      refine r_goto 4 S dX4_weightOf_32 (by decide) ?_
      refine r_lv [1, 2, 3, 0] (lv' := [(0, .ref aT), (1, .int x1), (2, .int x2_4), (3, .int (x3_4 + (1 : Int32)))]) rfl ?_
      exact hk4 (x2_4, (x3_4 + (1 : Int32))) (Option.some.inj hm).symm
    · replace hm := iF c4 hm
      refine r_iload_n S dX4_weightOf_20 rfl 2 rfl ?_
      refine r_aload_n S dX4_weightOf_21 rfl 0 rfl ?_
      refine r_get (T := TX4) (ci := 4) S (tlA inlX4) rfl 0 rfl 3 (Nat.le_of_ble_eq_true rfl) (tl u73) rfl dX4_weightOf_22 ?_
      refine r_iload_n S dX4_weightOf_25 rfl 3 rfl ?_
      obtain ⟨v5, h_v5, hm⟩ := bS hm
      refine r_iald S h_v5 1 0 rfl rfl dX4_weightOf_26 ?_
      refine r_iadd S dX4_weightOf_27 ?_
      obtain ⟨v6, h_v6, hm⟩ := bS hm
      refine r_topI h_v6 ?_
      refine r_istore_n S dX4_weightOf_28 rfl (Nat.le_of_ble_eq_true rfl) (lv' := [(2, .int v6), (0, .ref aT), (1, .int x1), (3, .int x3_4)]) rfl ?_
      refine r_iincc S dX4_weightOf_29 3 rfl (c0 := (1 : Int32)) rfl rfl (Nat.le_of_ble_eq_true rfl) (lv' := [(3, .int (x3_4 + (1 : Int32))), (2, .int v6), (0, .ref aT), (1, .int x1)]) rfl ?_
      refine r_goto 4 S dX4_weightOf_32 (by decide) ?_
      refine r_lv [2, 3, 1, 0] (lv' := [(0, .ref aT), (1, .int x1), (2, .int v6), (3, .int (x3_4 + (1 : Int32)))]) rfl ?_
      exact hk4 (v6, (x3_4 + (1 : Int32))) (Option.some.inj hm).symm
def wtX2_lastsOf : List Cond := Cond.code yX2_lastsOf cX2_lastsOf 5 (some .int) :: wsL_law
theorem ok_X2_lastsOf : CallOK yX2_lastsOf wtX2_lastsOf RX2 1 5 := ⟨⟨_, _, _, rfl⟩, rfl, ⟨by decide +kernel, by decide +kernel⟩, by decide +kernel⟩
set_option maxRecDepth 100000 in
set_option maxHeartbeats 4000000 in
theorem c_X2_lastsOf (l0 : Launch) (D0 : va_G) (cI cJ cZ cY : ClassId) (F : Nat) (aT aT_points aT_keys aT_aparts aT_roots aT_firsts aT_seconds aT_parts aT_firstSides aT_otherSides aT_joinsAbove aT_pointsAbove aT_pairs aT_links aT_nodes aT_points_xs aT_points_ys aT_points_ws : Nat) (T_count : Int32) (T_points_count : Int32) (T_joinsAbove : Nat → Int32) (T_parts : Nat → Int32) (T_points_ws : Nat → Int32) (T_pointsAbove : Nat → Int32) (T_roots : Nat → Int32) (x1 : Int32) (res : Int32) (hm : mX2_lastsOf F x1 T_count T_points_count T_joinsAbove T_parts T_points_ws T_pointsAbove T_roots = some res) : Ci D0 [(cI, .int), (cJ, .long), (cZ, .boolean), (cY, .array .int)] l0 yX2_lastsOf wtX2_lastsOf ({ frames := 2, cells := 0, slots := 0, locals := 44 }) [.ref aT, .int x1] (res) [(aT, .inr (2, [.ref aT_points, .int T_count, .ref aT_keys, .ref aT_aparts, .ref aT_roots, .ref aT_firsts, .ref aT_seconds, .ref aT_parts, .ref aT_firstSides, .ref aT_otherSides, .ref aT_joinsAbove, .ref aT_pointsAbove, .ref aT_pairs, .ref aT_links, .ref aT_nodes])), (aT_points, .inr (4, [.int T_points_count, .ref aT_points_xs, .ref aT_points_ys, .ref aT_points_ws])), (aT_joinsAbove, .inl (cI, 24, .inl T_joinsAbove)), (aT_parts, .inl (cI, 24, .inl T_parts)), (aT_points_ws, .inl (cI, 24, .inl T_points_ws)), (aT_pointsAbove, .inl (cI, 24, .inl T_pointsAbove)), (aT_roots, .inl (cI, 24, .inl T_roots))] [(aT, .inr (2, [.ref aT_points, .int T_count, .ref aT_keys, .ref aT_aparts, .ref aT_roots, .ref aT_firsts, .ref aT_seconds, .ref aT_parts, .ref aT_firstSides, .ref aT_otherSides, .ref aT_joinsAbove, .ref aT_pointsAbove, .ref aT_pairs, .ref aT_links, .ref aT_nodes])), (aT_points, .inr (4, [.int T_points_count, .ref aT_points_xs, .ref aT_points_ys, .ref aT_points_ws])), (aT_joinsAbove, .inl (cI, 24, .inl T_joinsAbove)), (aT_parts, .inl (cI, 24, .inl T_parts)), (aT_points_ws, .inl (cI, 24, .inl T_points_ws)), (aT_pointsAbove, .inl (cI, 24, .inl T_pointsAbove)), (aT_roots, .inl (cI, 24, .inl T_roots))] := by
  refine Ci.ofi cX2_lastsOf 5 (own := RX2) (by decide +kernel) rfl rfl (Nat.le_of_ble_eq_true rfl) ?_
  intro X S hR0
  have hR : ∀ (r9 : Int32) (pc : Nat) (lv : List (Nat × Value)), some r9 = some res → decode cX2_lastsOf pc = .ok (.ireturn, 1) → G X pc lv [.int (r9)] [(aT, .inr (2, [.ref aT_points, .int T_count, .ref aT_keys, .ref aT_aparts, .ref aT_roots, .ref aT_firsts, .ref aT_seconds, .ref aT_parts, .ref aT_firstSides, .ref aT_otherSides, .ref aT_joinsAbove, .ref aT_pointsAbove, .ref aT_pairs, .ref aT_links, .ref aT_nodes])), (aT_points, .inr (4, [.int T_points_count, .ref aT_points_xs, .ref aT_points_ys, .ref aT_points_ws])), (aT_joinsAbove, .inl (cI, 24, .inl T_joinsAbove)), (aT_parts, .inl (cI, 24, .inl T_parts)), (aT_points_ws, .inl (cI, 24, .inl T_points_ws)), (aT_pointsAbove, .inl (cI, 24, .inl T_pointsAbove)), (aT_roots, .inl (cI, 24, .inl T_roots))] := fun r9 pc lv h9 hd => by cases h9; exact hR0 pc lv hd
  show G X 0 [(0, .ref aT), (1, .int x1)] [] [(aT, .inr (2, [.ref aT_points, .int T_count, .ref aT_keys, .ref aT_aparts, .ref aT_roots, .ref aT_firsts, .ref aT_seconds, .ref aT_parts, .ref aT_firstSides, .ref aT_otherSides, .ref aT_joinsAbove, .ref aT_pointsAbove, .ref aT_pairs, .ref aT_links, .ref aT_nodes])), (aT_points, .inr (4, [.int T_points_count, .ref aT_points_xs, .ref aT_points_ys, .ref aT_points_ws])), (aT_joinsAbove, .inl (cI, 24, .inl T_joinsAbove)), (aT_parts, .inl (cI, 24, .inl T_parts)), (aT_points_ws, .inl (cI, 24, .inl T_points_ws)), (aT_pointsAbove, .inl (cI, 24, .inl T_pointsAbove)), (aT_roots, .inl (cI, 24, .inl T_roots))]
  unfold mX2_lastsOf at hm
  refine r_iload_n S dX2_lastsOf_0 rfl 1 rfl ?_
  obtain ⟨r1, h_r1, hm⟩ := bS hm
  refine r_calliS S (c_X2_joinOf l0 D0 cI cJ cZ cY F x1 _ h_r1) (gS u239 u240 u14 u241) ok_X2_joinOf ⟨rfl, rfl⟩ ⟨Nat.le_of_ble_eq_true rfl, Nat.le_of_ble_eq_true rfl⟩ [] [0, 1, 2, 3, 4, 5, 6] rfl (wr := [(aT, .inr (2, [.ref aT_points, .int T_count, .ref aT_keys, .ref aT_aparts, .ref aT_roots, .ref aT_firsts, .ref aT_seconds, .ref aT_parts, .ref aT_firstSides, .ref aT_otherSides, .ref aT_joinsAbove, .ref aT_pointsAbove, .ref aT_pairs, .ref aT_links, .ref aT_nodes])), (aT_points, .inr (4, [.int T_points_count, .ref aT_points_xs, .ref aT_points_ys, .ref aT_points_ws])), (aT_joinsAbove, .inl (cI, 24, .inl T_joinsAbove)), (aT_parts, .inl (cI, 24, .inl T_parts)), (aT_points_ws, .inl (cI, 24, .inl T_points_ws)), (aT_pointsAbove, .inl (cI, 24, .inl T_pointsAbove)), (aT_roots, .inl (cI, 24, .inl T_roots))]) rfl rfl rfl (by decide) (ws' := [(aT, .inr (2, [.ref aT_points, .int T_count, .ref aT_keys, .ref aT_aparts, .ref aT_roots, .ref aT_firsts, .ref aT_seconds, .ref aT_parts, .ref aT_firstSides, .ref aT_otherSides, .ref aT_joinsAbove, .ref aT_pointsAbove, .ref aT_pairs, .ref aT_links, .ref aT_nodes])), (aT_points, .inr (4, [.int T_points_count, .ref aT_points_xs, .ref aT_points_ys, .ref aT_points_ws])), (aT_joinsAbove, .inl (cI, 24, .inl T_joinsAbove)), (aT_parts, .inl (cI, 24, .inl T_parts)), (aT_points_ws, .inl (cI, 24, .inl T_points_ws)), (aT_pointsAbove, .inl (cI, 24, .inl T_pointsAbove)), (aT_roots, .inl (cI, 24, .inl T_roots))]) rfl (As := [.int x1]) (rest := []) rfl rfl (Nat.le_of_ble_eq_true rfl) dX2_lastsOf_1 ?_
  refine r_istore_n S dX2_lastsOf_4 rfl (Nat.le_of_ble_eq_true rfl) (lv' := [(2, .int r1), (0, .ref aT), (1, .int x1)]) rfl ?_
  refine r_aload_n S dX2_lastsOf_5 rfl 1 rfl ?_
  refine r_iload_n S dX2_lastsOf_6 rfl 2 rfl ?_
  obtain ⟨r2, h_r2, hm⟩ := bS hm
  refine r_calliV S (c_X2_joinAbove l0 D0 cI cJ cZ cY F aT aT_points aT_keys aT_aparts aT_roots aT_firsts aT_seconds aT_parts aT_firstSides aT_otherSides aT_joinsAbove aT_pointsAbove aT_pairs aT_links aT_nodes T_count T_joinsAbove T_pointsAbove x1 _ h_r2) (gV u507 u508 u509 u14 u510) ok_X2_joinAbove ⟨rfl, rfl⟩ ⟨Nat.le_of_ble_eq_true rfl, Nat.le_of_ble_eq_true rfl⟩ [0, 2, 5] [1, 3, 4, 6] rfl (wr := [(aT_points, .inr (4, [.int T_points_count, .ref aT_points_xs, .ref aT_points_ys, .ref aT_points_ws])), (aT_parts, .inl (cI, 24, .inl T_parts)), (aT_points_ws, .inl (cI, 24, .inl T_points_ws)), (aT_roots, .inl (cI, 24, .inl T_roots))]) rfl rfl rfl (by decide) (ci := 2) (T := TX2) 0 rfl rfl (ws' := [(aT_points, .inr (4, [.int T_points_count, .ref aT_points_xs, .ref aT_points_ys, .ref aT_points_ws])), (aT_parts, .inl (cI, 24, .inl T_parts)), (aT_points_ws, .inl (cI, 24, .inl T_points_ws)), (aT_roots, .inl (cI, 24, .inl T_roots)), (aT, .inr (2, [.ref aT_points, .int T_count, .ref aT_keys, .ref aT_aparts, .ref aT_roots, .ref aT_firsts, .ref aT_seconds, .ref aT_parts, .ref aT_firstSides, .ref aT_otherSides, .ref aT_joinsAbove, .ref aT_pointsAbove, .ref aT_pairs, .ref aT_links, .ref aT_nodes])), (aT_joinsAbove, .inl (cI, 24, .inl T_joinsAbove)), (aT_pointsAbove, .inl (cI, 24, .inl T_pointsAbove))]) rfl (As := [.int x1]) (rest := []) rfl rfl (Nat.le_of_ble_eq_true rfl) dX2_lastsOf_7 ?_
  refine r_istore_n S dX2_lastsOf_10 rfl (Nat.le_of_ble_eq_true rfl) (lv' := [(3, .int r2), (2, .int r1), (0, .ref aT), (1, .int x1)]) rfl ?_
  refine r_iload_n S dX2_lastsOf_11 rfl 0 rfl ?_
  refine r_if_lt 23 S dX2_lastsOf_12 (by decide) (fun c3 => ?_) (fun c3 => ?_)
  · replace hm := iT c3 hm
    refine r_iconst (v := (0 : Int32)) S dX2_lastsOf_23 rfl ?_
    refine r_perm [4, 0, 5, 1, 2, 6, 3] (ws' := [(aT, .inr (2, [.ref aT_points, .int T_count, .ref aT_keys, .ref aT_aparts, .ref aT_roots, .ref aT_firsts, .ref aT_seconds, .ref aT_parts, .ref aT_firstSides, .ref aT_otherSides, .ref aT_joinsAbove, .ref aT_pointsAbove, .ref aT_pairs, .ref aT_links, .ref aT_nodes])), (aT_points, .inr (4, [.int T_points_count, .ref aT_points_xs, .ref aT_points_ys, .ref aT_points_ws])), (aT_joinsAbove, .inl (cI, 24, .inl T_joinsAbove)), (aT_parts, .inl (cI, 24, .inl T_parts)), (aT_points_ws, .inl (cI, 24, .inl T_points_ws)), (aT_pointsAbove, .inl (cI, 24, .inl T_pointsAbove)), (aT_roots, .inl (cI, 24, .inl T_roots))]) rfl rfl ?_
    exact hR (0 : Int32) _ _ hm dX2_lastsOf_24
  · replace hm := iF c3 hm
    refine r_iload_n S dX2_lastsOf_15 rfl 0 rfl ?_
    refine r_aload_n S dX2_lastsOf_16 rfl 2 rfl ?_
    refine r_get (T := TX2) (ci := 2) S (tlA inlX2) rfl 4 rfl 1 (Nat.le_of_ble_eq_true rfl) (tl u51) rfl dX2_lastsOf_17 ?_
    refine r_icmp_lt 25 S dX2_lastsOf_20 (by decide) (fun c4 => ?_) (fun c4 => ?_)
    · replace hm := iT c4 hm
      refine r_iload_n S dX2_lastsOf_25 rfl 1 rfl ?_
      refine r_iconst (v := (-1 : Int32)) S dX2_lastsOf_26 rfl ?_
      have hJ40 : ∀ (x3_40 : Int32) (y0_40 : Int32), mX2_lastsOf_j40 F x1 T_points_count T_parts T_points_ws T_roots x3_40 y0_40 = some res → G X 40 [(0, .ref aT), (1, .int x1), (3, .int x3_40)] [.int y0_40] [(aT, .inr (2, [.ref aT_points, .int T_count, .ref aT_keys, .ref aT_aparts, .ref aT_roots, .ref aT_firsts, .ref aT_seconds, .ref aT_parts, .ref aT_firstSides, .ref aT_otherSides, .ref aT_joinsAbove, .ref aT_pointsAbove, .ref aT_pairs, .ref aT_links, .ref aT_nodes])), (aT_points, .inr (4, [.int T_points_count, .ref aT_points_xs, .ref aT_points_ys, .ref aT_points_ws])), (aT_joinsAbove, .inl (cI, 24, .inl T_joinsAbove)), (aT_parts, .inl (cI, 24, .inl T_parts)), (aT_points_ws, .inl (cI, 24, .inl T_points_ws)), (aT_pointsAbove, .inl (cI, 24, .inl T_pointsAbove)), (aT_roots, .inl (cI, 24, .inl T_roots))] := by
        intro x3_40 y0_40 hm
        unfold mX2_lastsOf_j40 at hm
        refine r_istore S dX2_lastsOf_40 (Nat.le_of_ble_eq_true rfl) (lv' := [(4, .int y0_40), (0, .ref aT), (1, .int x1), (3, .int x3_40)]) rfl ?_
        refine r_aload_n S dX2_lastsOf_42 rfl 1 rfl ?_
        refine r_get (T := TX2) (ci := 2) S (tlA inlX2) rfl 0 rfl 0 (Nat.le_of_ble_eq_true rfl) (tl u50) rfl dX2_lastsOf_43 ?_
        refine r_aload_n S dX2_lastsOf_46 rfl 1 rfl ?_
        refine r_iload_n S dX2_lastsOf_47 rfl 2 rfl ?_
        obtain ⟨r5, h_r5, hm⟩ := bS hm
        refine r_calliV S (c_X2_setOf l0 D0 cI cJ cZ cY F aT aT_points aT_keys aT_aparts aT_roots aT_firsts aT_seconds aT_parts aT_firstSides aT_otherSides aT_joinsAbove aT_pointsAbove aT_pairs aT_links aT_nodes T_count T_parts x1 _ h_r5) (gV u235 u236 u237 u14 u238) ok_X2_setOf ⟨rfl, rfl⟩ ⟨Nat.le_of_ble_eq_true rfl, Nat.le_of_ble_eq_true rfl⟩ [0, 3] [1, 2, 4, 5, 6] rfl (wr := [(aT_points, .inr (4, [.int T_points_count, .ref aT_points_xs, .ref aT_points_ys, .ref aT_points_ws])), (aT_joinsAbove, .inl (cI, 24, .inl T_joinsAbove)), (aT_points_ws, .inl (cI, 24, .inl T_points_ws)), (aT_pointsAbove, .inl (cI, 24, .inl T_pointsAbove)), (aT_roots, .inl (cI, 24, .inl T_roots))]) rfl rfl rfl (by decide) (ci := 2) (T := TX2) 0 rfl rfl (ws' := [(aT_points, .inr (4, [.int T_points_count, .ref aT_points_xs, .ref aT_points_ys, .ref aT_points_ws])), (aT_joinsAbove, .inl (cI, 24, .inl T_joinsAbove)), (aT_points_ws, .inl (cI, 24, .inl T_points_ws)), (aT_pointsAbove, .inl (cI, 24, .inl T_pointsAbove)), (aT_roots, .inl (cI, 24, .inl T_roots)), (aT, .inr (2, [.ref aT_points, .int T_count, .ref aT_keys, .ref aT_aparts, .ref aT_roots, .ref aT_firsts, .ref aT_seconds, .ref aT_parts, .ref aT_firstSides, .ref aT_otherSides, .ref aT_joinsAbove, .ref aT_pointsAbove, .ref aT_pairs, .ref aT_links, .ref aT_nodes])), (aT_parts, .inl (cI, 24, .inl T_parts))]) rfl (As := [.int x1]) (rest := [.ref aT_points]) rfl rfl (Nat.le_of_ble_eq_true rfl) dX2_lastsOf_48 ?_
        obtain ⟨r6, h_r6, hm⟩ := bS hm
        refine r_calliV S (c_X4_weightOf l0 D0 cI cJ cZ cY F aT_points aT_points_xs aT_points_ys aT_points_ws T_points_count T_points_ws r5 _ h_r6) (gV u511 u499 u500 u49 u501) ok_X4_weightOf ⟨rfl, rfl⟩ ⟨Nat.le_of_ble_eq_true rfl, Nat.le_of_ble_eq_true rfl⟩ [0, 2] [1, 3, 4, 5, 6] rfl (wr := [(aT_joinsAbove, .inl (cI, 24, .inl T_joinsAbove)), (aT_pointsAbove, .inl (cI, 24, .inl T_pointsAbove)), (aT_roots, .inl (cI, 24, .inl T_roots)), (aT, .inr (2, [.ref aT_points, .int T_count, .ref aT_keys, .ref aT_aparts, .ref aT_roots, .ref aT_firsts, .ref aT_seconds, .ref aT_parts, .ref aT_firstSides, .ref aT_otherSides, .ref aT_joinsAbove, .ref aT_pointsAbove, .ref aT_pairs, .ref aT_links, .ref aT_nodes])), (aT_parts, .inl (cI, 24, .inl T_parts))]) rfl rfl rfl (by decide) (ci := 4) (T := TX4) 0 rfl rfl (ws' := [(aT_joinsAbove, .inl (cI, 24, .inl T_joinsAbove)), (aT_pointsAbove, .inl (cI, 24, .inl T_pointsAbove)), (aT_roots, .inl (cI, 24, .inl T_roots)), (aT, .inr (2, [.ref aT_points, .int T_count, .ref aT_keys, .ref aT_aparts, .ref aT_roots, .ref aT_firsts, .ref aT_seconds, .ref aT_parts, .ref aT_firstSides, .ref aT_otherSides, .ref aT_joinsAbove, .ref aT_pointsAbove, .ref aT_pairs, .ref aT_links, .ref aT_nodes])), (aT_parts, .inl (cI, 24, .inl T_parts)), (aT_points, .inr (4, [.int T_points_count, .ref aT_points_xs, .ref aT_points_ys, .ref aT_points_ws])), (aT_points_ws, .inl (cI, 24, .inl T_points_ws))]) rfl (As := [.int r5]) (rest := []) rfl rfl (Nat.le_of_ble_eq_true rfl) dX2_lastsOf_51 ?_
        refine r_aload_n S dX2_lastsOf_54 rfl 1 rfl ?_
        refine r_get (T := TX2) (ci := 2) S (tlA inlX2) rfl 3 rfl 4 (Nat.le_of_ble_eq_true rfl) (tl u55) rfl dX2_lastsOf_55 ?_
        refine r_iload_n S dX2_lastsOf_58 rfl 3 rfl ?_
        obtain ⟨v7, h_v7, hm⟩ := bS hm
        refine r_iald S h_v7 2 0 rfl rfl dX2_lastsOf_59 ?_
        refine r_iload S dX2_lastsOf_60 0 rfl ?_
        refine r_isub S dX2_lastsOf_62 ?_
        refine r_imul S dX2_lastsOf_63 ?_
        refine r_perm [3, 5, 0, 4, 6, 1, 2] (ws' := [(aT, .inr (2, [.ref aT_points, .int T_count, .ref aT_keys, .ref aT_aparts, .ref aT_roots, .ref aT_firsts, .ref aT_seconds, .ref aT_parts, .ref aT_firstSides, .ref aT_otherSides, .ref aT_joinsAbove, .ref aT_pointsAbove, .ref aT_pairs, .ref aT_links, .ref aT_nodes])), (aT_points, .inr (4, [.int T_points_count, .ref aT_points_xs, .ref aT_points_ys, .ref aT_points_ws])), (aT_joinsAbove, .inl (cI, 24, .inl T_joinsAbove)), (aT_parts, .inl (cI, 24, .inl T_parts)), (aT_points_ws, .inl (cI, 24, .inl T_points_ws)), (aT_pointsAbove, .inl (cI, 24, .inl T_pointsAbove)), (aT_roots, .inl (cI, 24, .inl T_roots))]) rfl rfl ?_
        exact hR (r6 * (v7 - y0_40)) _ _ hm dX2_lastsOf_64
      refine r_icmp_eq 39 S dX2_lastsOf_27 (by decide) (fun c8 => ?_) (fun c8 => ?_)
      · replace hm := iT c8 hm
        refine r_iconst (v := (0 : Int32)) S dX2_lastsOf_39 rfl ?_
        refine r_perm [4, 0, 5, 1, 2, 6, 3] (ws' := [(aT, .inr (2, [.ref aT_points, .int T_count, .ref aT_keys, .ref aT_aparts, .ref aT_roots, .ref aT_firsts, .ref aT_seconds, .ref aT_parts, .ref aT_firstSides, .ref aT_otherSides, .ref aT_joinsAbove, .ref aT_pointsAbove, .ref aT_pairs, .ref aT_links, .ref aT_nodes])), (aT_points, .inr (4, [.int T_points_count, .ref aT_points_xs, .ref aT_points_ys, .ref aT_points_ws])), (aT_joinsAbove, .inl (cI, 24, .inl T_joinsAbove)), (aT_parts, .inl (cI, 24, .inl T_parts)), (aT_points_ws, .inl (cI, 24, .inl T_points_ws)), (aT_pointsAbove, .inl (cI, 24, .inl T_pointsAbove)), (aT_roots, .inl (cI, 24, .inl T_roots))]) rfl rfl ?_
        refine r_lv [2, 3, 0] (lv' := [(0, .ref aT), (1, .int x1), (3, .int r2)]) rfl ?_
        exact hJ40 r2 (0 : Int32) hm
      · replace hm := iF c8 hm
        refine r_aload_n S dX2_lastsOf_30 rfl 2 rfl ?_
        refine r_get (T := TX2) (ci := 2) S (tlA inlX2) rfl 4 rfl 4 (Nat.le_of_ble_eq_true rfl) (tl u55) rfl dX2_lastsOf_31 ?_
        refine r_iload_n S dX2_lastsOf_34 rfl 1 rfl ?_
        obtain ⟨v9, h_v9, hm⟩ := bS hm
        refine r_iald S h_v9 3 0 rfl rfl dX2_lastsOf_35 ?_
        refine r_goto 40 S dX2_lastsOf_36 (by decide) ?_
        refine r_perm [4, 0, 5, 1, 2, 6, 3] (ws' := [(aT, .inr (2, [.ref aT_points, .int T_count, .ref aT_keys, .ref aT_aparts, .ref aT_roots, .ref aT_firsts, .ref aT_seconds, .ref aT_parts, .ref aT_firstSides, .ref aT_otherSides, .ref aT_joinsAbove, .ref aT_pointsAbove, .ref aT_pairs, .ref aT_links, .ref aT_nodes])), (aT_points, .inr (4, [.int T_points_count, .ref aT_points_xs, .ref aT_points_ys, .ref aT_points_ws])), (aT_joinsAbove, .inl (cI, 24, .inl T_joinsAbove)), (aT_parts, .inl (cI, 24, .inl T_parts)), (aT_points_ws, .inl (cI, 24, .inl T_points_ws)), (aT_pointsAbove, .inl (cI, 24, .inl T_pointsAbove)), (aT_roots, .inl (cI, 24, .inl T_roots))]) rfl rfl ?_
        refine r_lv [2, 3, 0] (lv' := [(0, .ref aT), (1, .int x1), (3, .int r2)]) rfl ?_
        exact hJ40 r2 v9 hm
    · replace hm := iF c4 hm
      refine r_iconst (v := (0 : Int32)) S dX2_lastsOf_23 rfl ?_
      refine r_perm [4, 0, 5, 1, 2, 6, 3] (ws' := [(aT, .inr (2, [.ref aT_points, .int T_count, .ref aT_keys, .ref aT_aparts, .ref aT_roots, .ref aT_firsts, .ref aT_seconds, .ref aT_parts, .ref aT_firstSides, .ref aT_otherSides, .ref aT_joinsAbove, .ref aT_pointsAbove, .ref aT_pairs, .ref aT_links, .ref aT_nodes])), (aT_points, .inr (4, [.int T_points_count, .ref aT_points_xs, .ref aT_points_ys, .ref aT_points_ws])), (aT_joinsAbove, .inl (cI, 24, .inl T_joinsAbove)), (aT_parts, .inl (cI, 24, .inl T_parts)), (aT_points_ws, .inl (cI, 24, .inl T_points_ws)), (aT_pointsAbove, .inl (cI, 24, .inl T_pointsAbove)), (aT_roots, .inl (cI, 24, .inl T_roots))]) rfl rfl ?_
      exact hR (0 : Int32) _ _ hm dX2_lastsOf_24
def wtX1_totalOf : List Cond := Cond.code yX1_totalOf cX1_totalOf 4 (some .int) :: wsL_law
theorem ok_X1_totalOf : CallOK yX1_totalOf wtX1_totalOf RX1 2 4 := ⟨⟨_, _, _, rfl⟩, rfl, ⟨by decide +kernel, by decide +kernel⟩, by decide +kernel⟩
set_option maxRecDepth 100000 in
set_option maxHeartbeats 4000000 in
theorem c_X1_totalOf (l0 : Launch) (D0 : va_G) (cI cJ cZ cY : ClassId) (F : Nat) (aT aq1 aT_totals aT_whole aT_open aT_nodesByLeast aq1_points aq1_keys aq1_aparts aq1_roots aq1_firsts aq1_seconds aq1_parts aq1_firstSides aq1_otherSides aq1_joinsAbove aq1_pointsAbove aq1_pairs aq1_links aq1_nodes aq1_points_xs aq1_points_ys aq1_points_ws : Nat) (T_total : Int32) (T_count : Int32) (q1_count : Int32) (q1_points_count : Int32) (T_totals : Nat → Int32) (q1_joinsAbove : Nat → Int32) (q1_parts : Nat → Int32) (q1_points_ws : Nat → Int32) (q1_pointsAbove : Nat → Int32) (q1_roots : Nat → Int32) (x2 : Int32) (res : Int32) (hm : mX1_totalOf F x2 q1_count q1_points_count T_totals q1_joinsAbove q1_parts q1_points_ws q1_pointsAbove q1_roots = some res) : Ci D0 [(cI, .int), (cJ, .long), (cZ, .boolean), (cY, .array .int)] l0 yX1_totalOf wtX1_totalOf ({ frames := 3, cells := 0, slots := 0, locals := 68 }) [.ref aT, .ref aq1, .int x2] (res) [(aT, .inr (1, [.int T_total, .int T_count, .ref aT_totals, .ref aT_whole, .ref aT_open, .ref aT_nodesByLeast])), (aq1, .inr (2, [.ref aq1_points, .int q1_count, .ref aq1_keys, .ref aq1_aparts, .ref aq1_roots, .ref aq1_firsts, .ref aq1_seconds, .ref aq1_parts, .ref aq1_firstSides, .ref aq1_otherSides, .ref aq1_joinsAbove, .ref aq1_pointsAbove, .ref aq1_pairs, .ref aq1_links, .ref aq1_nodes])), (aq1_points, .inr (4, [.int q1_points_count, .ref aq1_points_xs, .ref aq1_points_ys, .ref aq1_points_ws])), (aT_totals, .inl (cI, 24, .inl T_totals)), (aq1_joinsAbove, .inl (cI, 24, .inl q1_joinsAbove)), (aq1_parts, .inl (cI, 24, .inl q1_parts)), (aq1_points_ws, .inl (cI, 24, .inl q1_points_ws)), (aq1_pointsAbove, .inl (cI, 24, .inl q1_pointsAbove)), (aq1_roots, .inl (cI, 24, .inl q1_roots))] [(aT, .inr (1, [.int T_total, .int T_count, .ref aT_totals, .ref aT_whole, .ref aT_open, .ref aT_nodesByLeast])), (aq1, .inr (2, [.ref aq1_points, .int q1_count, .ref aq1_keys, .ref aq1_aparts, .ref aq1_roots, .ref aq1_firsts, .ref aq1_seconds, .ref aq1_parts, .ref aq1_firstSides, .ref aq1_otherSides, .ref aq1_joinsAbove, .ref aq1_pointsAbove, .ref aq1_pairs, .ref aq1_links, .ref aq1_nodes])), (aq1_points, .inr (4, [.int q1_points_count, .ref aq1_points_xs, .ref aq1_points_ys, .ref aq1_points_ws])), (aT_totals, .inl (cI, 24, .inl T_totals)), (aq1_joinsAbove, .inl (cI, 24, .inl q1_joinsAbove)), (aq1_parts, .inl (cI, 24, .inl q1_parts)), (aq1_points_ws, .inl (cI, 24, .inl q1_points_ws)), (aq1_pointsAbove, .inl (cI, 24, .inl q1_pointsAbove)), (aq1_roots, .inl (cI, 24, .inl q1_roots))] := by
  refine Ci.ofi cX1_totalOf 4 (own := RX1) (by decide +kernel) rfl rfl (Nat.le_of_ble_eq_true rfl) ?_
  intro X S hR0
  have hR : ∀ (r9 : Int32) (pc : Nat) (lv : List (Nat × Value)), some r9 = some res → decode cX1_totalOf pc = .ok (.ireturn, 1) → G X pc lv [.int (r9)] [(aT, .inr (1, [.int T_total, .int T_count, .ref aT_totals, .ref aT_whole, .ref aT_open, .ref aT_nodesByLeast])), (aq1, .inr (2, [.ref aq1_points, .int q1_count, .ref aq1_keys, .ref aq1_aparts, .ref aq1_roots, .ref aq1_firsts, .ref aq1_seconds, .ref aq1_parts, .ref aq1_firstSides, .ref aq1_otherSides, .ref aq1_joinsAbove, .ref aq1_pointsAbove, .ref aq1_pairs, .ref aq1_links, .ref aq1_nodes])), (aq1_points, .inr (4, [.int q1_points_count, .ref aq1_points_xs, .ref aq1_points_ys, .ref aq1_points_ws])), (aT_totals, .inl (cI, 24, .inl T_totals)), (aq1_joinsAbove, .inl (cI, 24, .inl q1_joinsAbove)), (aq1_parts, .inl (cI, 24, .inl q1_parts)), (aq1_points_ws, .inl (cI, 24, .inl q1_points_ws)), (aq1_pointsAbove, .inl (cI, 24, .inl q1_pointsAbove)), (aq1_roots, .inl (cI, 24, .inl q1_roots))] := fun r9 pc lv h9 hd => by cases h9; exact hR0 pc lv hd
  show G X 0 [(0, .ref aT), (1, .ref aq1), (2, .int x2)] [] [(aT, .inr (1, [.int T_total, .int T_count, .ref aT_totals, .ref aT_whole, .ref aT_open, .ref aT_nodesByLeast])), (aq1, .inr (2, [.ref aq1_points, .int q1_count, .ref aq1_keys, .ref aq1_aparts, .ref aq1_roots, .ref aq1_firsts, .ref aq1_seconds, .ref aq1_parts, .ref aq1_firstSides, .ref aq1_otherSides, .ref aq1_joinsAbove, .ref aq1_pointsAbove, .ref aq1_pairs, .ref aq1_links, .ref aq1_nodes])), (aq1_points, .inr (4, [.int q1_points_count, .ref aq1_points_xs, .ref aq1_points_ys, .ref aq1_points_ws])), (aT_totals, .inl (cI, 24, .inl T_totals)), (aq1_joinsAbove, .inl (cI, 24, .inl q1_joinsAbove)), (aq1_parts, .inl (cI, 24, .inl q1_parts)), (aq1_points_ws, .inl (cI, 24, .inl q1_points_ws)), (aq1_pointsAbove, .inl (cI, 24, .inl q1_pointsAbove)), (aq1_roots, .inl (cI, 24, .inl q1_roots))]
  unfold mX1_totalOf at hm
  refine r_iload_n S dX1_totalOf_0 rfl 2 rfl ?_
  obtain ⟨r1, h_r1, hm⟩ := bS hm
  refine r_calliS S (c_X2_joinOf l0 D0 cI cJ cZ cY F x2 _ h_r1) (gS u1011 u240 u14 u241) ok_X2_joinOf ⟨rfl, rfl⟩ ⟨Nat.le_of_ble_eq_true rfl, Nat.le_of_ble_eq_true rfl⟩ [] [0, 1, 2, 3, 4, 5, 6, 7, 8] rfl (wr := [(aT, .inr (1, [.int T_total, .int T_count, .ref aT_totals, .ref aT_whole, .ref aT_open, .ref aT_nodesByLeast])), (aq1, .inr (2, [.ref aq1_points, .int q1_count, .ref aq1_keys, .ref aq1_aparts, .ref aq1_roots, .ref aq1_firsts, .ref aq1_seconds, .ref aq1_parts, .ref aq1_firstSides, .ref aq1_otherSides, .ref aq1_joinsAbove, .ref aq1_pointsAbove, .ref aq1_pairs, .ref aq1_links, .ref aq1_nodes])), (aq1_points, .inr (4, [.int q1_points_count, .ref aq1_points_xs, .ref aq1_points_ys, .ref aq1_points_ws])), (aT_totals, .inl (cI, 24, .inl T_totals)), (aq1_joinsAbove, .inl (cI, 24, .inl q1_joinsAbove)), (aq1_parts, .inl (cI, 24, .inl q1_parts)), (aq1_points_ws, .inl (cI, 24, .inl q1_points_ws)), (aq1_pointsAbove, .inl (cI, 24, .inl q1_pointsAbove)), (aq1_roots, .inl (cI, 24, .inl q1_roots))]) rfl rfl rfl (by decide) (ws' := [(aT, .inr (1, [.int T_total, .int T_count, .ref aT_totals, .ref aT_whole, .ref aT_open, .ref aT_nodesByLeast])), (aq1, .inr (2, [.ref aq1_points, .int q1_count, .ref aq1_keys, .ref aq1_aparts, .ref aq1_roots, .ref aq1_firsts, .ref aq1_seconds, .ref aq1_parts, .ref aq1_firstSides, .ref aq1_otherSides, .ref aq1_joinsAbove, .ref aq1_pointsAbove, .ref aq1_pairs, .ref aq1_links, .ref aq1_nodes])), (aq1_points, .inr (4, [.int q1_points_count, .ref aq1_points_xs, .ref aq1_points_ys, .ref aq1_points_ws])), (aT_totals, .inl (cI, 24, .inl T_totals)), (aq1_joinsAbove, .inl (cI, 24, .inl q1_joinsAbove)), (aq1_parts, .inl (cI, 24, .inl q1_parts)), (aq1_points_ws, .inl (cI, 24, .inl q1_points_ws)), (aq1_pointsAbove, .inl (cI, 24, .inl q1_pointsAbove)), (aq1_roots, .inl (cI, 24, .inl q1_roots))]) rfl (As := [.int x2]) (rest := []) rfl rfl (Nat.le_of_ble_eq_true rfl) dX1_totalOf_1 ?_
  refine r_istore_n S dX1_totalOf_4 rfl (Nat.le_of_ble_eq_true rfl) (lv' := [(3, .int r1), (0, .ref aT), (1, .ref aq1), (2, .int x2)]) rfl ?_
  refine r_iload_n S dX1_totalOf_5 rfl 0 rfl ?_
  refine r_iconst (v := (-1 : Int32)) S dX1_totalOf_6 rfl ?_
  refine r_icmp_eq 19 S dX1_totalOf_7 (by decide) (fun c2 => ?_) (fun c2 => ?_)
  · replace hm := iT c2 hm
    refine r_aload_n S dX1_totalOf_19 rfl 2 rfl ?_
    refine r_iload_n S dX1_totalOf_20 rfl 3 rfl ?_
    obtain ⟨r3, h_r3, hm⟩ := bS hm
    refine r_calliV S (c_X2_lastsOf l0 D0 cI cJ cZ cY F aq1 aq1_points aq1_keys aq1_aparts aq1_roots aq1_firsts aq1_seconds aq1_parts aq1_firstSides aq1_otherSides aq1_joinsAbove aq1_pointsAbove aq1_pairs aq1_links aq1_nodes aq1_points_xs aq1_points_ys aq1_points_ws q1_count q1_points_count q1_joinsAbove q1_parts q1_points_ws q1_pointsAbove q1_roots x2 _ h_r3) (gV u1000 u504 u505 u14 u506) ok_X2_lastsOf ⟨rfl, rfl⟩ ⟨Nat.le_of_ble_eq_true rfl, Nat.le_of_ble_eq_true rfl⟩ [1, 2, 4, 5, 6, 7, 8] [0, 3] rfl (wr := [(aT, .inr (1, [.int T_total, .int T_count, .ref aT_totals, .ref aT_whole, .ref aT_open, .ref aT_nodesByLeast])), (aT_totals, .inl (cI, 24, .inl T_totals))]) rfl rfl rfl (by decide) (ci := 2) (T := TX2) 0 rfl rfl (ws' := [(aT, .inr (1, [.int T_total, .int T_count, .ref aT_totals, .ref aT_whole, .ref aT_open, .ref aT_nodesByLeast])), (aT_totals, .inl (cI, 24, .inl T_totals)), (aq1, .inr (2, [.ref aq1_points, .int q1_count, .ref aq1_keys, .ref aq1_aparts, .ref aq1_roots, .ref aq1_firsts, .ref aq1_seconds, .ref aq1_parts, .ref aq1_firstSides, .ref aq1_otherSides, .ref aq1_joinsAbove, .ref aq1_pointsAbove, .ref aq1_pairs, .ref aq1_links, .ref aq1_nodes])), (aq1_points, .inr (4, [.int q1_points_count, .ref aq1_points_xs, .ref aq1_points_ys, .ref aq1_points_ws])), (aq1_joinsAbove, .inl (cI, 24, .inl q1_joinsAbove)), (aq1_parts, .inl (cI, 24, .inl q1_parts)), (aq1_points_ws, .inl (cI, 24, .inl q1_points_ws)), (aq1_pointsAbove, .inl (cI, 24, .inl q1_pointsAbove)), (aq1_roots, .inl (cI, 24, .inl q1_roots))]) rfl (As := [.int x2]) (rest := []) rfl rfl (Nat.le_of_ble_eq_true rfl) dX1_totalOf_21 ?_
    refine r_perm [0, 2, 3, 1, 4, 5, 6, 7, 8] (ws' := [(aT, .inr (1, [.int T_total, .int T_count, .ref aT_totals, .ref aT_whole, .ref aT_open, .ref aT_nodesByLeast])), (aq1, .inr (2, [.ref aq1_points, .int q1_count, .ref aq1_keys, .ref aq1_aparts, .ref aq1_roots, .ref aq1_firsts, .ref aq1_seconds, .ref aq1_parts, .ref aq1_firstSides, .ref aq1_otherSides, .ref aq1_joinsAbove, .ref aq1_pointsAbove, .ref aq1_pairs, .ref aq1_links, .ref aq1_nodes])), (aq1_points, .inr (4, [.int q1_points_count, .ref aq1_points_xs, .ref aq1_points_ys, .ref aq1_points_ws])), (aT_totals, .inl (cI, 24, .inl T_totals)), (aq1_joinsAbove, .inl (cI, 24, .inl q1_joinsAbove)), (aq1_parts, .inl (cI, 24, .inl q1_parts)), (aq1_points_ws, .inl (cI, 24, .inl q1_points_ws)), (aq1_pointsAbove, .inl (cI, 24, .inl q1_pointsAbove)), (aq1_roots, .inl (cI, 24, .inl q1_roots))]) rfl rfl ?_
    exact hR r3 _ _ hm dX1_totalOf_24
  · replace hm := iF c2 hm
    refine r_aload_n S dX1_totalOf_10 rfl 1 rfl ?_
    refine r_get (T := TX1) (ci := 1) S (tlA inlX1) rfl 0 rfl 2 (Nat.le_of_ble_eq_true rfl) (tl u109) rfl dX1_totalOf_11 ?_
    refine r_iload_n S dX1_totalOf_14 rfl 0 rfl ?_
    obtain ⟨v4, h_v4, hm⟩ := bS hm
    refine r_iald S h_v4 3 0 rfl rfl dX1_totalOf_15 ?_
    refine r_goto 24 S dX1_totalOf_16 (by decide) ?_
    exact hR v4 _ _ hm dX1_totalOf_24
def wtX1_sidesTotal : List Cond := Cond.code yX1_sidesTotal cX1_sidesTotal 3 (some .int) :: wsL_law
theorem ok_X1_sidesTotal : CallOK yX1_sidesTotal wtX1_sidesTotal RX1 2 3 := ⟨⟨_, _, _, rfl⟩, rfl, ⟨by decide +kernel, by decide +kernel⟩, by decide +kernel⟩
set_option maxRecDepth 100000 in
set_option maxHeartbeats 4000000 in
theorem c_X1_sidesTotal (l0 : Launch) (D0 : va_G) (cI cJ cZ cY : ClassId) (F : Nat) (aT aq1 aT_totals aT_whole aT_open aT_nodesByLeast aq1_points aq1_keys aq1_aparts aq1_roots aq1_firsts aq1_seconds aq1_parts aq1_firstSides aq1_otherSides aq1_joinsAbove aq1_pointsAbove aq1_pairs aq1_links aq1_nodes aq1_points_xs aq1_points_ys aq1_points_ws : Nat) (T_total : Int32) (T_count : Int32) (q1_count : Int32) (q1_points_count : Int32) (T_totals : Nat → Int32) (q1_firstSides : Nat → Int32) (q1_joinsAbove : Nat → Int32) (q1_otherSides : Nat → Int32) (q1_parts : Nat → Int32) (q1_points_ws : Nat → Int32) (q1_pointsAbove : Nat → Int32) (q1_roots : Nat → Int32) (x2 : Int32) (res : Int32) (hm : mX1_sidesTotal F x2 q1_count q1_points_count T_totals q1_firstSides q1_joinsAbove q1_otherSides q1_parts q1_points_ws q1_pointsAbove q1_roots = some res) : Ci D0 [(cI, .int), (cJ, .long), (cZ, .boolean), (cY, .array .int)] l0 yX1_sidesTotal wtX1_sidesTotal ({ frames := 4, cells := 0, slots := 0, locals := 91 }) [.ref aT, .ref aq1, .int x2] (res) [(aT, .inr (1, [.int T_total, .int T_count, .ref aT_totals, .ref aT_whole, .ref aT_open, .ref aT_nodesByLeast])), (aq1, .inr (2, [.ref aq1_points, .int q1_count, .ref aq1_keys, .ref aq1_aparts, .ref aq1_roots, .ref aq1_firsts, .ref aq1_seconds, .ref aq1_parts, .ref aq1_firstSides, .ref aq1_otherSides, .ref aq1_joinsAbove, .ref aq1_pointsAbove, .ref aq1_pairs, .ref aq1_links, .ref aq1_nodes])), (aq1_points, .inr (4, [.int q1_points_count, .ref aq1_points_xs, .ref aq1_points_ys, .ref aq1_points_ws])), (aT_totals, .inl (cI, 24, .inl T_totals)), (aq1_firstSides, .inl (cI, 24, .inl q1_firstSides)), (aq1_joinsAbove, .inl (cI, 24, .inl q1_joinsAbove)), (aq1_otherSides, .inl (cI, 24, .inl q1_otherSides)), (aq1_parts, .inl (cI, 24, .inl q1_parts)), (aq1_points_ws, .inl (cI, 24, .inl q1_points_ws)), (aq1_pointsAbove, .inl (cI, 24, .inl q1_pointsAbove)), (aq1_roots, .inl (cI, 24, .inl q1_roots))] [(aT, .inr (1, [.int T_total, .int T_count, .ref aT_totals, .ref aT_whole, .ref aT_open, .ref aT_nodesByLeast])), (aq1, .inr (2, [.ref aq1_points, .int q1_count, .ref aq1_keys, .ref aq1_aparts, .ref aq1_roots, .ref aq1_firsts, .ref aq1_seconds, .ref aq1_parts, .ref aq1_firstSides, .ref aq1_otherSides, .ref aq1_joinsAbove, .ref aq1_pointsAbove, .ref aq1_pairs, .ref aq1_links, .ref aq1_nodes])), (aq1_points, .inr (4, [.int q1_points_count, .ref aq1_points_xs, .ref aq1_points_ys, .ref aq1_points_ws])), (aT_totals, .inl (cI, 24, .inl T_totals)), (aq1_firstSides, .inl (cI, 24, .inl q1_firstSides)), (aq1_joinsAbove, .inl (cI, 24, .inl q1_joinsAbove)), (aq1_otherSides, .inl (cI, 24, .inl q1_otherSides)), (aq1_parts, .inl (cI, 24, .inl q1_parts)), (aq1_points_ws, .inl (cI, 24, .inl q1_points_ws)), (aq1_pointsAbove, .inl (cI, 24, .inl q1_pointsAbove)), (aq1_roots, .inl (cI, 24, .inl q1_roots))] := by
  refine Ci.ofi cX1_sidesTotal 3 (own := RX1) (by decide +kernel) rfl rfl (Nat.le_of_ble_eq_true rfl) ?_
  intro X S hR0
  have hR : ∀ (r9 : Int32) (pc : Nat) (lv : List (Nat × Value)), some r9 = some res → decode cX1_sidesTotal pc = .ok (.ireturn, 1) → G X pc lv [.int (r9)] [(aT, .inr (1, [.int T_total, .int T_count, .ref aT_totals, .ref aT_whole, .ref aT_open, .ref aT_nodesByLeast])), (aq1, .inr (2, [.ref aq1_points, .int q1_count, .ref aq1_keys, .ref aq1_aparts, .ref aq1_roots, .ref aq1_firsts, .ref aq1_seconds, .ref aq1_parts, .ref aq1_firstSides, .ref aq1_otherSides, .ref aq1_joinsAbove, .ref aq1_pointsAbove, .ref aq1_pairs, .ref aq1_links, .ref aq1_nodes])), (aq1_points, .inr (4, [.int q1_points_count, .ref aq1_points_xs, .ref aq1_points_ys, .ref aq1_points_ws])), (aT_totals, .inl (cI, 24, .inl T_totals)), (aq1_firstSides, .inl (cI, 24, .inl q1_firstSides)), (aq1_joinsAbove, .inl (cI, 24, .inl q1_joinsAbove)), (aq1_otherSides, .inl (cI, 24, .inl q1_otherSides)), (aq1_parts, .inl (cI, 24, .inl q1_parts)), (aq1_points_ws, .inl (cI, 24, .inl q1_points_ws)), (aq1_pointsAbove, .inl (cI, 24, .inl q1_pointsAbove)), (aq1_roots, .inl (cI, 24, .inl q1_roots))] := fun r9 pc lv h9 hd => by cases h9; exact hR0 pc lv hd
  show G X 0 [(0, .ref aT), (1, .ref aq1), (2, .int x2)] [] [(aT, .inr (1, [.int T_total, .int T_count, .ref aT_totals, .ref aT_whole, .ref aT_open, .ref aT_nodesByLeast])), (aq1, .inr (2, [.ref aq1_points, .int q1_count, .ref aq1_keys, .ref aq1_aparts, .ref aq1_roots, .ref aq1_firsts, .ref aq1_seconds, .ref aq1_parts, .ref aq1_firstSides, .ref aq1_otherSides, .ref aq1_joinsAbove, .ref aq1_pointsAbove, .ref aq1_pairs, .ref aq1_links, .ref aq1_nodes])), (aq1_points, .inr (4, [.int q1_points_count, .ref aq1_points_xs, .ref aq1_points_ys, .ref aq1_points_ws])), (aT_totals, .inl (cI, 24, .inl T_totals)), (aq1_firstSides, .inl (cI, 24, .inl q1_firstSides)), (aq1_joinsAbove, .inl (cI, 24, .inl q1_joinsAbove)), (aq1_otherSides, .inl (cI, 24, .inl q1_otherSides)), (aq1_parts, .inl (cI, 24, .inl q1_parts)), (aq1_points_ws, .inl (cI, 24, .inl q1_points_ws)), (aq1_pointsAbove, .inl (cI, 24, .inl q1_pointsAbove)), (aq1_roots, .inl (cI, 24, .inl q1_roots))]
  unfold mX1_sidesTotal at hm
  refine r_aload_n S dX1_sidesTotal_0 rfl 0 rfl ?_
  refine r_aload_n S dX1_sidesTotal_1 rfl 1 rfl ?_
  refine r_aload_n S dX1_sidesTotal_2 rfl 1 rfl ?_
  refine r_get (T := TX2) (ci := 2) S (tlA inlX2) rfl 1 rfl 8 (Nat.le_of_ble_eq_true rfl) (tl u1005) rfl dX1_sidesTotal_3 ?_
  refine r_iload_n S dX1_sidesTotal_6 rfl 2 rfl ?_
  obtain ⟨v1, h_v1, hm⟩ := bS hm
  refine r_iald S h_v1 4 0 rfl rfl dX1_sidesTotal_7 ?_
  obtain ⟨r2, h_r2, hm⟩ := bS hm
  refine r_calliV S (c_X1_totalOf l0 D0 cI cJ cZ cY F aT aq1 aT_totals aT_whole aT_open aT_nodesByLeast aq1_points aq1_keys aq1_aparts aq1_roots aq1_firsts aq1_seconds aq1_parts aq1_firstSides aq1_otherSides aq1_joinsAbove aq1_pointsAbove aq1_pairs aq1_links aq1_nodes aq1_points_xs aq1_points_ys aq1_points_ws T_total T_count q1_count q1_points_count T_totals q1_joinsAbove q1_parts q1_points_ws q1_pointsAbove q1_roots v1 _ h_r2) (gV u1007 u1008 u1009 u37 u1010) ok_X1_totalOf ⟨rfl, rfl⟩ ⟨Nat.le_of_ble_eq_true rfl, Nat.le_of_ble_eq_true rfl⟩ [0, 1, 2, 3, 5, 7, 8, 9, 10] [4, 6] rfl (wr := [(aq1_firstSides, .inl (cI, 24, .inl q1_firstSides)), (aq1_otherSides, .inl (cI, 24, .inl q1_otherSides))]) rfl rfl rfl (by decide) (ci := 1) (T := TX1) 0 rfl rfl (ws' := [(aq1_firstSides, .inl (cI, 24, .inl q1_firstSides)), (aq1_otherSides, .inl (cI, 24, .inl q1_otherSides)), (aT, .inr (1, [.int T_total, .int T_count, .ref aT_totals, .ref aT_whole, .ref aT_open, .ref aT_nodesByLeast])), (aq1, .inr (2, [.ref aq1_points, .int q1_count, .ref aq1_keys, .ref aq1_aparts, .ref aq1_roots, .ref aq1_firsts, .ref aq1_seconds, .ref aq1_parts, .ref aq1_firstSides, .ref aq1_otherSides, .ref aq1_joinsAbove, .ref aq1_pointsAbove, .ref aq1_pairs, .ref aq1_links, .ref aq1_nodes])), (aq1_points, .inr (4, [.int q1_points_count, .ref aq1_points_xs, .ref aq1_points_ys, .ref aq1_points_ws])), (aT_totals, .inl (cI, 24, .inl T_totals)), (aq1_joinsAbove, .inl (cI, 24, .inl q1_joinsAbove)), (aq1_parts, .inl (cI, 24, .inl q1_parts)), (aq1_points_ws, .inl (cI, 24, .inl q1_points_ws)), (aq1_pointsAbove, .inl (cI, 24, .inl q1_pointsAbove)), (aq1_roots, .inl (cI, 24, .inl q1_roots))]) rfl (As := [.ref aq1, .int v1]) (rest := []) rfl rfl (Nat.le_of_ble_eq_true rfl) dX1_sidesTotal_8 ?_
  refine r_aload_n S dX1_sidesTotal_11 rfl 0 rfl ?_
  refine r_aload_n S dX1_sidesTotal_12 rfl 1 rfl ?_
  refine r_aload_n S dX1_sidesTotal_13 rfl 1 rfl ?_
  refine r_get (T := TX2) (ci := 2) S (tlA inlX2) rfl 3 rfl 9 (Nat.le_of_ble_eq_true rfl) (tl u1006) rfl dX1_sidesTotal_14 ?_
  refine r_iload_n S dX1_sidesTotal_17 rfl 2 rfl ?_
  obtain ⟨v3, h_v3, hm⟩ := bS hm
  refine r_iald S h_v3 1 0 rfl rfl dX1_sidesTotal_18 ?_
  obtain ⟨r4, h_r4, hm⟩ := bS hm
  refine r_calliV S (c_X1_totalOf l0 D0 cI cJ cZ cY F aT aq1 aT_totals aT_whole aT_open aT_nodesByLeast aq1_points aq1_keys aq1_aparts aq1_roots aq1_firsts aq1_seconds aq1_parts aq1_firstSides aq1_otherSides aq1_joinsAbove aq1_pointsAbove aq1_pairs aq1_links aq1_nodes aq1_points_xs aq1_points_ys aq1_points_ws T_total T_count q1_count q1_points_count T_totals q1_joinsAbove q1_parts q1_points_ws q1_pointsAbove q1_roots v3 _ h_r4) (gV u1007 u1008 u1009 u37 u1010) ok_X1_totalOf ⟨rfl, rfl⟩ ⟨Nat.le_of_ble_eq_true rfl, Nat.le_of_ble_eq_true rfl⟩ [2, 3, 4, 5, 6, 7, 8, 9, 10] [0, 1] rfl (wr := [(aq1_firstSides, .inl (cI, 24, .inl q1_firstSides)), (aq1_otherSides, .inl (cI, 24, .inl q1_otherSides))]) rfl rfl rfl (by decide) (ci := 1) (T := TX1) 0 rfl rfl (ws' := [(aq1_firstSides, .inl (cI, 24, .inl q1_firstSides)), (aq1_otherSides, .inl (cI, 24, .inl q1_otherSides)), (aT, .inr (1, [.int T_total, .int T_count, .ref aT_totals, .ref aT_whole, .ref aT_open, .ref aT_nodesByLeast])), (aq1, .inr (2, [.ref aq1_points, .int q1_count, .ref aq1_keys, .ref aq1_aparts, .ref aq1_roots, .ref aq1_firsts, .ref aq1_seconds, .ref aq1_parts, .ref aq1_firstSides, .ref aq1_otherSides, .ref aq1_joinsAbove, .ref aq1_pointsAbove, .ref aq1_pairs, .ref aq1_links, .ref aq1_nodes])), (aq1_points, .inr (4, [.int q1_points_count, .ref aq1_points_xs, .ref aq1_points_ys, .ref aq1_points_ws])), (aT_totals, .inl (cI, 24, .inl T_totals)), (aq1_joinsAbove, .inl (cI, 24, .inl q1_joinsAbove)), (aq1_parts, .inl (cI, 24, .inl q1_parts)), (aq1_points_ws, .inl (cI, 24, .inl q1_points_ws)), (aq1_pointsAbove, .inl (cI, 24, .inl q1_pointsAbove)), (aq1_roots, .inl (cI, 24, .inl q1_roots))]) rfl (As := [.ref aq1, .int v3]) (rest := [.int r2]) rfl rfl (Nat.le_of_ble_eq_true rfl) dX1_sidesTotal_19 ?_
  refine r_iadd S dX1_sidesTotal_22 ?_
  refine r_perm [2, 3, 4, 5, 0, 6, 1, 7, 8, 9, 10] (ws' := [(aT, .inr (1, [.int T_total, .int T_count, .ref aT_totals, .ref aT_whole, .ref aT_open, .ref aT_nodesByLeast])), (aq1, .inr (2, [.ref aq1_points, .int q1_count, .ref aq1_keys, .ref aq1_aparts, .ref aq1_roots, .ref aq1_firsts, .ref aq1_seconds, .ref aq1_parts, .ref aq1_firstSides, .ref aq1_otherSides, .ref aq1_joinsAbove, .ref aq1_pointsAbove, .ref aq1_pairs, .ref aq1_links, .ref aq1_nodes])), (aq1_points, .inr (4, [.int q1_points_count, .ref aq1_points_xs, .ref aq1_points_ys, .ref aq1_points_ws])), (aT_totals, .inl (cI, 24, .inl T_totals)), (aq1_firstSides, .inl (cI, 24, .inl q1_firstSides)), (aq1_joinsAbove, .inl (cI, 24, .inl q1_joinsAbove)), (aq1_otherSides, .inl (cI, 24, .inl q1_otherSides)), (aq1_parts, .inl (cI, 24, .inl q1_parts)), (aq1_points_ws, .inl (cI, 24, .inl q1_points_ws)), (aq1_pointsAbove, .inl (cI, 24, .inl q1_pointsAbove)), (aq1_roots, .inl (cI, 24, .inl q1_roots))]) rfl rfl ?_
  exact hR (r2 + r4) _ _ hm dX1_sidesTotal_23
def wtX6_nth : List Cond := Cond.code yX6_nth cX6_nth 4 (some .int) :: wsL_law
theorem ok_X6_nth : CallOK yX6_nth wtX6_nth RX6 2 4 := ⟨⟨_, _, _, rfl⟩, rfl, ⟨by decide +kernel, by decide +kernel⟩, by decide +kernel⟩
set_option maxRecDepth 100000 in
set_option maxHeartbeats 4000000 in
theorem c_X6_nth (l0 : Launch) (D0 : va_G) (cI cJ cZ cY : ClassId) (F : Nat) (x0 : Int32) (x1 : Int32) (res : Int32) (hm : mX6_nth F x0 x1 = some res) : Ci D0 [(cI, .int), (cJ, .long), (cZ, .boolean), (cY, .array .int)] l0 yX6_nth wtX6_nth ({ frames := 1, cells := 0, slots := 0, locals := 21 }) [.int x0, .int x1] (res) [] [] := by
  refine Ci.ofi cX6_nth 4 (own := RX6) (by decide +kernel) rfl rfl (Nat.le_of_ble_eq_true rfl) ?_
  intro X S hR0
  have hR : ∀ (r9 : Int32) (pc : Nat) (lv : List (Nat × Value)), some r9 = some res → decode cX6_nth pc = .ok (.ireturn, 1) → G X pc lv [.int (r9)] [] := fun r9 pc lv h9 hd => by cases h9; exact hR0 pc lv hd
  show G X 0 [(0, .int x0), (1, .int x1)] [] []
  unfold mX6_nth at hm
  refine r_iconst (v := (0 : Int32)) S dX6_nth_0 rfl ?_
  refine r_istore_n S dX6_nth_1 rfl (Nat.le_of_ble_eq_true rfl) (lv' := [(2, .int (0 : Int32)), (0, .int x0), (1, .int x1)]) rfl ?_
  refine r_iconst (v := (0 : Int32)) S dX6_nth_2 rfl ?_
  refine r_istore_n S dX6_nth_3 rfl (Nat.le_of_ble_eq_true rfl) (lv' := [(3, .int (0 : Int32)), (2, .int (0 : Int32)), (0, .int x0), (1, .int x1)]) rfl ?_
  have hR4 : ∀ (r9 : Int32) (pc : Nat) (lv : List (Nat × Value)), r9 = res → decode cX6_nth pc = .ok (.ireturn, 1) → G X pc lv [.int (r9)] [] := fun r9 pc lv h9 hd => hR r9 pc lv (congrArg some h9) hd
  refine r_lv [2, 3, 1, 0] (lv' := [(0, .int x0), (1, .int x1), (2, .int (0 : Int32)), (3, .int (0 : Int32))]) rfl ?_
  refine loopG (r0 := res) (Gd := fun s9 => G X 4 [(0, .int x0), (1, .int x1), (2, .int s9.1), (3, .int s9.2)] [] []) ?_ _ _ hm
  rintro ⟨x2_4, x3_4⟩ b4 hm hk4 hr4
  replace hm : mX6_nth_b4 F x0 x1 x2_4 x3_4 = some b4 := hm
  unfold mX6_nth_b4 at hm
  show G X 4 [(0, .int x0), (1, .int x1), (2, .int x2_4), (3, .int x3_4)] [] []
  refine r_iload_n S dX6_nth_4 rfl 3 rfl ?_
  refine r_bipush (v := (24 : Int32)) S dX6_nth_5 rfl ?_
  refine r_icmp_ge 34 S dX6_nth_7 (by decide) (fun c2 => ?_) (fun c2 => ?_)
  · replace hm := iT c2 hm
    refine r_iconst (v := (-1 : Int32)) S dX6_nth_34 rfl ?_
    exact hR4 (-1 : Int32) _ _ (hr4 _ (Option.some.inj hm).symm) dX6_nth_35
  · replace hm := iF c2 hm
    refine r_iload_n S dX6_nth_10 rfl 0 rfl ?_
    refine r_iload_n S dX6_nth_11 rfl 3 rfl ?_
    obtain ⟨r3, h_r3, hm⟩ := bS hm
    refine r_callzS S (c_X6_has l0 D0 cI cJ cZ cY F x0 x3_4 _ h_r3) (gS u702 u214 u215 u216) ok_X6_has ⟨rfl, rfl⟩ ⟨Nat.le_of_ble_eq_true rfl, Nat.le_of_ble_eq_true rfl⟩ [] [] rfl (wr := []) rfl rfl rfl (by decide) (ws' := []) rfl (As := [.int x0, .int x3_4]) (rest := []) rfl rfl (Nat.le_of_ble_eq_true rfl) dX6_nth_12 (fun hz_r3 => ?_)
    refine r_if_eq 28 S dX6_nth_15 (by decide) (fun c4 => ?_) (fun c4 => ?_)
    · replace hm := iT c4 hm
      refine r_iincc S dX6_nth_28 3 rfl (c0 := (1 : Int32)) rfl rfl (Nat.le_of_ble_eq_true rfl) (lv' := [(3, .int (x3_4 + (1 : Int32))), (0, .int x0), (1, .int x1), (2, .int x2_4)]) rfl ?_
      refine r_goto 4 S dX6_nth_31 (by decide) ?_
      refine r_lv [1, 2, 3, 0] (lv' := [(0, .int x0), (1, .int x1), (2, .int x2_4), (3, .int (x3_4 + (1 : Int32)))]) rfl ?_
      exact hk4 (x2_4, (x3_4 + (1 : Int32))) (Option.some.inj hm).symm
    · replace hm := iF c4 hm
      refine r_iload_n S dX6_nth_18 rfl 2 rfl ?_
      refine r_iload_n S dX6_nth_19 rfl 1 rfl ?_
      refine r_icmp_ne 25 S dX6_nth_20 (by decide) (fun c5 => ?_) (fun c5 => ?_)
      · replace hm := iF c5 hm
        obtain ⟨v6, h_v6, hm⟩ := bS hm
        refine r_iincc S dX6_nth_25 2 rfl (c0 := (1 : Int32)) rfl (Option.some.inj h_v6) (Nat.le_of_ble_eq_true rfl) (lv' := [(2, .int v6), (0, .int x0), (1, .int x1), (3, .int x3_4)]) rfl ?_
        refine r_iincc S dX6_nth_28 3 rfl (c0 := (1 : Int32)) rfl rfl (Nat.le_of_ble_eq_true rfl) (lv' := [(3, .int (x3_4 + (1 : Int32))), (2, .int v6), (0, .int x0), (1, .int x1)]) rfl ?_
        refine r_goto 4 S dX6_nth_31 (by decide) ?_
        refine r_lv [2, 3, 1, 0] (lv' := [(0, .int x0), (1, .int x1), (2, .int v6), (3, .int (x3_4 + (1 : Int32)))]) rfl ?_
        exact hk4 (v6, (x3_4 + (1 : Int32))) (Option.some.inj hm).symm
      · replace hm := iT c5 hm
        refine r_iload_n S dX6_nth_23 rfl 3 rfl ?_
        exact hR4 x3_4 _ _ (hr4 _ (Option.some.inj hm).symm) dX6_nth_24
def wtX6_least : List Cond := Cond.code yX6_least cX6_least 1 (some .int) :: wsL_law
theorem ok_X6_least : CallOK yX6_least wtX6_least RX6 1 1 := ⟨⟨_, _, _, rfl⟩, rfl, ⟨by decide +kernel, by decide +kernel⟩, by decide +kernel⟩
set_option maxRecDepth 100000 in
set_option maxHeartbeats 4000000 in
theorem c_X6_least (l0 : Launch) (D0 : va_G) (cI cJ cZ cY : ClassId) (F : Nat) (x0 : Int32) (res : Int32) (hm : mX6_least F x0 = some res) : Ci D0 [(cI, .int), (cJ, .long), (cZ, .boolean), (cY, .array .int)] l0 yX6_least wtX6_least ({ frames := 2, cells := 0, slots := 0, locals := 44 }) [.int x0] (res) [] [] := by
  refine Ci.ofi cX6_least 1 (own := RX6) (by decide +kernel) rfl rfl (Nat.le_of_ble_eq_true rfl) ?_
  intro X S hR0
  have hR : ∀ (r9 : Int32) (pc : Nat) (lv : List (Nat × Value)), some r9 = some res → decode cX6_least pc = .ok (.ireturn, 1) → G X pc lv [.int (r9)] [] := fun r9 pc lv h9 hd => by cases h9; exact hR0 pc lv hd
  show G X 0 [(0, .int x0)] [] []
  unfold mX6_least at hm
  refine r_iload_n S dX6_least_0 rfl 0 rfl ?_
  refine r_iconst (v := (0 : Int32)) S dX6_least_1 rfl ?_
  obtain ⟨r1, h_r1, hm⟩ := bS hm
  refine r_calliS S (c_X6_nth l0 D0 cI cJ cZ cY F x0 (0 : Int32) _ h_r1) (gS u699 u700 u215 u701) ok_X6_nth ⟨rfl, rfl⟩ ⟨Nat.le_of_ble_eq_true rfl, Nat.le_of_ble_eq_true rfl⟩ [] [] rfl (wr := []) rfl rfl rfl (by decide) (ws' := []) rfl (As := [.int x0, .int (0 : Int32)]) (rest := []) rfl rfl (Nat.le_of_ble_eq_true rfl) dX6_least_2 ?_
  exact hR r1 _ _ hm dX6_least_5
def wtX1_put : List Cond := Cond.code yX1_put cX1_put 4 none :: wsL_law
theorem ok_X1_put : CallOK yX1_put wtX1_put RX1 2 4 := ⟨⟨_, _, _, rfl⟩, rfl, ⟨by decide +kernel, by decide +kernel⟩, by decide +kernel⟩
set_option maxRecDepth 100000 in
set_option maxHeartbeats 4000000 in
theorem c_X1_put (l0 : Launch) (D0 : va_G) (cI cJ cZ cY : ClassId) (F : Nat) (aT aq1 aT_totals aT_whole aT_open aT_nodesByLeast aq1_points aq1_keys aq1_aparts aq1_roots aq1_firsts aq1_seconds aq1_parts aq1_firstSides aq1_otherSides aq1_joinsAbove aq1_pointsAbove aq1_pairs aq1_links aq1_nodes : Nat) (T_total : Int32) (T_count : Int32) (q1_count : Int32) (T_nodesByLeast : Nat → Int32) (q1_parts : Nat → Int32) (x2 : Int32) (res : Int32 × (Nat → Int32)) (hm : mX1_put F x2 T_count T_nodesByLeast q1_parts = some res) : Cv D0 [(cI, .int), (cJ, .long), (cZ, .boolean), (cY, .array .int)] l0 yX1_put wtX1_put ({ frames := 3, cells := 0, slots := 0, locals := 64 }) [.ref aT, .ref aq1, .int x2] [(aT, .inr (1, [.int T_total, .int T_count, .ref aT_totals, .ref aT_whole, .ref aT_open, .ref aT_nodesByLeast])), (aq1, .inr (2, [.ref aq1_points, .int q1_count, .ref aq1_keys, .ref aq1_aparts, .ref aq1_roots, .ref aq1_firsts, .ref aq1_seconds, .ref aq1_parts, .ref aq1_firstSides, .ref aq1_otherSides, .ref aq1_joinsAbove, .ref aq1_pointsAbove, .ref aq1_pairs, .ref aq1_links, .ref aq1_nodes])), (aT_nodesByLeast, .inl (cI, 24, .inl T_nodesByLeast)), (aq1_parts, .inl (cI, 24, .inl q1_parts))] [(aT, .inr (1, [.int T_total, .int (res.1), .ref aT_totals, .ref aT_whole, .ref aT_open, .ref aT_nodesByLeast])), (aq1, .inr (2, [.ref aq1_points, .int q1_count, .ref aq1_keys, .ref aq1_aparts, .ref aq1_roots, .ref aq1_firsts, .ref aq1_seconds, .ref aq1_parts, .ref aq1_firstSides, .ref aq1_otherSides, .ref aq1_joinsAbove, .ref aq1_pointsAbove, .ref aq1_pairs, .ref aq1_links, .ref aq1_nodes])), (aT_nodesByLeast, .inl (cI, 24, .inl (res.2))), (aq1_parts, .inl (cI, 24, .inl q1_parts))] := by
  refine Cv.ofv cX1_put 4 (own := RX1) (by decide +kernel) rfl rfl (Nat.le_of_ble_eq_true rfl) ?_
  intro X S hR0
  have hR : ∀ (r9 : Int32 × (Nat → Int32)) (pc : Nat) (lv : List (Nat × Value)), some r9 = some res → decode cX1_put pc = .ok (.return_, 1) → G X pc lv [] [(aT, .inr (1, [.int T_total, .int (r9.1), .ref aT_totals, .ref aT_whole, .ref aT_open, .ref aT_nodesByLeast])), (aq1, .inr (2, [.ref aq1_points, .int q1_count, .ref aq1_keys, .ref aq1_aparts, .ref aq1_roots, .ref aq1_firsts, .ref aq1_seconds, .ref aq1_parts, .ref aq1_firstSides, .ref aq1_otherSides, .ref aq1_joinsAbove, .ref aq1_pointsAbove, .ref aq1_pairs, .ref aq1_links, .ref aq1_nodes])), (aT_nodesByLeast, .inl (cI, 24, .inl (r9.2))), (aq1_parts, .inl (cI, 24, .inl q1_parts))] := fun r9 pc lv h9 hd => by cases h9; exact hR0 pc lv hd
  show G X 0 [(0, .ref aT), (1, .ref aq1), (2, .int x2)] [] [(aT, .inr (1, [.int T_total, .int T_count, .ref aT_totals, .ref aT_whole, .ref aT_open, .ref aT_nodesByLeast])), (aq1, .inr (2, [.ref aq1_points, .int q1_count, .ref aq1_keys, .ref aq1_aparts, .ref aq1_roots, .ref aq1_firsts, .ref aq1_seconds, .ref aq1_parts, .ref aq1_firstSides, .ref aq1_otherSides, .ref aq1_joinsAbove, .ref aq1_pointsAbove, .ref aq1_pairs, .ref aq1_links, .ref aq1_nodes])), (aT_nodesByLeast, .inl (cI, 24, .inl T_nodesByLeast)), (aq1_parts, .inl (cI, 24, .inl q1_parts))]
  unfold mX1_put at hm
  refine r_aload_n S dX1_put_0 rfl 1 rfl ?_
  refine r_iload_n S dX1_put_1 rfl 2 rfl ?_
  obtain ⟨r1, h_r1, hm⟩ := bS hm
  refine r_calliV S (c_X2_setOf l0 D0 cI cJ cZ cY F aq1 aq1_points aq1_keys aq1_aparts aq1_roots aq1_firsts aq1_seconds aq1_parts aq1_firstSides aq1_otherSides aq1_joinsAbove aq1_pointsAbove aq1_pairs aq1_links aq1_nodes q1_count q1_parts x2 _ h_r1) (gV u1020 u236 u237 u14 u238) ok_X2_setOf ⟨rfl, rfl⟩ ⟨Nat.le_of_ble_eq_true rfl, Nat.le_of_ble_eq_true rfl⟩ [1, 3] [0, 2] rfl (wr := [(aT, .inr (1, [.int T_total, .int T_count, .ref aT_totals, .ref aT_whole, .ref aT_open, .ref aT_nodesByLeast])), (aT_nodesByLeast, .inl (cI, 24, .inl T_nodesByLeast))]) rfl rfl rfl (by decide) (ci := 2) (T := TX2) 0 rfl rfl (ws' := [(aT, .inr (1, [.int T_total, .int T_count, .ref aT_totals, .ref aT_whole, .ref aT_open, .ref aT_nodesByLeast])), (aT_nodesByLeast, .inl (cI, 24, .inl T_nodesByLeast)), (aq1, .inr (2, [.ref aq1_points, .int q1_count, .ref aq1_keys, .ref aq1_aparts, .ref aq1_roots, .ref aq1_firsts, .ref aq1_seconds, .ref aq1_parts, .ref aq1_firstSides, .ref aq1_otherSides, .ref aq1_joinsAbove, .ref aq1_pointsAbove, .ref aq1_pairs, .ref aq1_links, .ref aq1_nodes])), (aq1_parts, .inl (cI, 24, .inl q1_parts))]) rfl (As := [.int x2]) (rest := []) rfl rfl (Nat.le_of_ble_eq_true rfl) dX1_put_2 ?_
  obtain ⟨r2, h_r2, hm⟩ := bS hm
  refine r_calliS S (c_X6_least l0 D0 cI cJ cZ cY F r1 _ h_r2) (gS u1021 u697 u215 u698) ok_X6_least ⟨rfl, rfl⟩ ⟨Nat.le_of_ble_eq_true rfl, Nat.le_of_ble_eq_true rfl⟩ [] [0, 1, 2, 3] rfl (wr := [(aT, .inr (1, [.int T_total, .int T_count, .ref aT_totals, .ref aT_whole, .ref aT_open, .ref aT_nodesByLeast])), (aT_nodesByLeast, .inl (cI, 24, .inl T_nodesByLeast)), (aq1, .inr (2, [.ref aq1_points, .int q1_count, .ref aq1_keys, .ref aq1_aparts, .ref aq1_roots, .ref aq1_firsts, .ref aq1_seconds, .ref aq1_parts, .ref aq1_firstSides, .ref aq1_otherSides, .ref aq1_joinsAbove, .ref aq1_pointsAbove, .ref aq1_pairs, .ref aq1_links, .ref aq1_nodes])), (aq1_parts, .inl (cI, 24, .inl q1_parts))]) rfl rfl rfl (by decide) (ws' := [(aT, .inr (1, [.int T_total, .int T_count, .ref aT_totals, .ref aT_whole, .ref aT_open, .ref aT_nodesByLeast])), (aT_nodesByLeast, .inl (cI, 24, .inl T_nodesByLeast)), (aq1, .inr (2, [.ref aq1_points, .int q1_count, .ref aq1_keys, .ref aq1_aparts, .ref aq1_roots, .ref aq1_firsts, .ref aq1_seconds, .ref aq1_parts, .ref aq1_firstSides, .ref aq1_otherSides, .ref aq1_joinsAbove, .ref aq1_pointsAbove, .ref aq1_pairs, .ref aq1_links, .ref aq1_nodes])), (aq1_parts, .inl (cI, 24, .inl q1_parts))]) rfl (As := [.int r1]) (rest := []) rfl rfl (Nat.le_of_ble_eq_true rfl) dX1_put_5 ?_
  refine r_istore_n S dX1_put_8 rfl (Nat.le_of_ble_eq_true rfl) (lv' := [(3, .int r2), (0, .ref aT), (1, .ref aq1), (2, .int x2)]) rfl ?_
  refine r_iload_n S dX1_put_9 rfl 0 rfl ?_
  refine r_if_lt 36 S dX1_put_10 (by decide) (fun c3 => ?_) (fun c3 => ?_)
  · replace hm := iT c3 hm
    refine r_perm [0, 2, 1, 3] (ws' := [(aT, .inr (1, [.int T_total, .int T_count, .ref aT_totals, .ref aT_whole, .ref aT_open, .ref aT_nodesByLeast])), (aq1, .inr (2, [.ref aq1_points, .int q1_count, .ref aq1_keys, .ref aq1_aparts, .ref aq1_roots, .ref aq1_firsts, .ref aq1_seconds, .ref aq1_parts, .ref aq1_firstSides, .ref aq1_otherSides, .ref aq1_joinsAbove, .ref aq1_pointsAbove, .ref aq1_pairs, .ref aq1_links, .ref aq1_nodes])), (aT_nodesByLeast, .inl (cI, 24, .inl T_nodesByLeast)), (aq1_parts, .inl (cI, 24, .inl q1_parts))]) rfl rfl ?_
    exact hR (T_count, T_nodesByLeast) _ _ hm dX1_put_36
  · replace hm := iF c3 hm
    refine r_iload_n S dX1_put_13 rfl 0 rfl ?_
    refine r_bipush (v := (24 : Int32)) S dX1_put_14 rfl ?_
    refine r_icmp_ge 36 S dX1_put_16 (by decide) (fun c4 => ?_) (fun c4 => ?_)
    · replace hm := iT c4 hm
      refine r_perm [0, 2, 1, 3] (ws' := [(aT, .inr (1, [.int T_total, .int T_count, .ref aT_totals, .ref aT_whole, .ref aT_open, .ref aT_nodesByLeast])), (aq1, .inr (2, [.ref aq1_points, .int q1_count, .ref aq1_keys, .ref aq1_aparts, .ref aq1_roots, .ref aq1_firsts, .ref aq1_seconds, .ref aq1_parts, .ref aq1_firstSides, .ref aq1_otherSides, .ref aq1_joinsAbove, .ref aq1_pointsAbove, .ref aq1_pairs, .ref aq1_links, .ref aq1_nodes])), (aT_nodesByLeast, .inl (cI, 24, .inl T_nodesByLeast)), (aq1_parts, .inl (cI, 24, .inl q1_parts))]) rfl rfl ?_
      exact hR (T_count, T_nodesByLeast) _ _ hm dX1_put_36
    · replace hm := iF c4 hm
      refine r_aload_n S dX1_put_19 rfl 1 rfl ?_
      refine r_get (T := TX1) (ci := 1) S (tlA inlX1) rfl 0 rfl 5 (Nat.le_of_ble_eq_true rfl) (tl u113) rfl dX1_put_20 ?_
      refine r_iload_n S dX1_put_23 rfl 0 rfl ?_
      refine r_iload_n S dX1_put_24 rfl 3 rfl ?_
      obtain ⟨g5, h_g5, hm⟩ := bS hm
      refine r_iast S h_g5 1 0 rfl rfl (ws' := [(aT, .inr (1, [.int T_total, .int T_count, .ref aT_totals, .ref aT_whole, .ref aT_open, .ref aT_nodesByLeast])), (aT_nodesByLeast, .inl (cI, 24, .inl g5)), (aq1, .inr (2, [.ref aq1_points, .int q1_count, .ref aq1_keys, .ref aq1_aparts, .ref aq1_roots, .ref aq1_firsts, .ref aq1_seconds, .ref aq1_parts, .ref aq1_firstSides, .ref aq1_otherSides, .ref aq1_joinsAbove, .ref aq1_pointsAbove, .ref aq1_pairs, .ref aq1_links, .ref aq1_nodes])), (aq1_parts, .inl (cI, 24, .inl q1_parts))]) rfl dX1_put_25 ?_
      refine r_aload_n S dX1_put_26 rfl 1 rfl ?_
      refine r_dup S dX1_put_27 rfl ?_
      refine r_get (T := TX1) (ci := 1) S (tlA inlX1) rfl 0 rfl 1 (Nat.le_of_ble_eq_true rfl) (tl u108) rfl dX1_put_28 ?_
      refine r_iconst (v := (1 : Int32)) S dX1_put_31 rfl ?_
      refine r_iadd S dX1_put_32 ?_
      obtain ⟨v6, h_v6, hm⟩ := bS hm
      refine r_topI h_v6 ?_
      refine r_put (T := TX1) (ci := 1) S (tlA inlX1) tyX1 tyX1_ok nmX1 rfl 0 rfl 1 (Nat.le_of_ble_eq_true rfl) (tl u108) rfl rfl rfl (Nat.le_of_ble_eq_true rfl) (ws' := [(aT, .inr (1, [.int T_total, .int v6, .ref aT_totals, .ref aT_whole, .ref aT_open, .ref aT_nodesByLeast])), (aT_nodesByLeast, .inl (cI, 24, .inl g5)), (aq1, .inr (2, [.ref aq1_points, .int q1_count, .ref aq1_keys, .ref aq1_aparts, .ref aq1_roots, .ref aq1_firsts, .ref aq1_seconds, .ref aq1_parts, .ref aq1_firstSides, .ref aq1_otherSides, .ref aq1_joinsAbove, .ref aq1_pointsAbove, .ref aq1_pairs, .ref aq1_links, .ref aq1_nodes])), (aq1_parts, .inl (cI, 24, .inl q1_parts))]) rfl dX1_put_33 ?_
      refine r_perm [0, 2, 1, 3] (ws' := [(aT, .inr (1, [.int T_total, .int v6, .ref aT_totals, .ref aT_whole, .ref aT_open, .ref aT_nodesByLeast])), (aq1, .inr (2, [.ref aq1_points, .int q1_count, .ref aq1_keys, .ref aq1_aparts, .ref aq1_roots, .ref aq1_firsts, .ref aq1_seconds, .ref aq1_parts, .ref aq1_firstSides, .ref aq1_otherSides, .ref aq1_joinsAbove, .ref aq1_pointsAbove, .ref aq1_pairs, .ref aq1_links, .ref aq1_nodes])), (aT_nodesByLeast, .inl (cI, 24, .inl g5)), (aq1_parts, .inl (cI, 24, .inl q1_parts))]) rfl rfl ?_
      exact hR (v6, g5) _ _ hm dX1_put_36
def wtX1_openNode : List Cond := Cond.code yX1_openNode cX1_openNode 4 none :: wsL_law
theorem ok_X1_openNode : CallOK yX1_openNode wtX1_openNode RX1 2 4 := ⟨⟨_, _, _, rfl⟩, rfl, ⟨by decide +kernel, by decide +kernel⟩, by decide +kernel⟩
set_option maxRecDepth 100000 in
set_option maxHeartbeats 4000000 in
theorem c_X1_openNode (l0 : Launch) (D0 : va_G) (cI cJ cZ cY : ClassId) (F : Nat) (aT aq1 aT_totals aT_whole aT_open aT_nodesByLeast aq1_points aq1_keys aq1_aparts aq1_roots aq1_firsts aq1_seconds aq1_parts aq1_firstSides aq1_otherSides aq1_joinsAbove aq1_pointsAbove aq1_pairs aq1_links aq1_nodes : Nat) (T_total : Int32) (T_count : Int32) (q1_count : Int32) (T_nodesByLeast : Nat → Int32) (T_open : Nat → Int32) (q1_parts : Nat → Int32) (x2 : Int32) (res : Int32 × (Nat → Int32) × (Nat → Int32)) (hm : mX1_openNode F x2 T_count T_nodesByLeast T_open q1_parts = some res) : Cv D0 [(cI, .int), (cJ, .long), (cZ, .boolean), (cY, .array .int)] l0 yX1_openNode wtX1_openNode ({ frames := 4, cells := 0, slots := 0, locals := 87 }) [.ref aT, .ref aq1, .int x2] [(aT, .inr (1, [.int T_total, .int T_count, .ref aT_totals, .ref aT_whole, .ref aT_open, .ref aT_nodesByLeast])), (aq1, .inr (2, [.ref aq1_points, .int q1_count, .ref aq1_keys, .ref aq1_aparts, .ref aq1_roots, .ref aq1_firsts, .ref aq1_seconds, .ref aq1_parts, .ref aq1_firstSides, .ref aq1_otherSides, .ref aq1_joinsAbove, .ref aq1_pointsAbove, .ref aq1_pairs, .ref aq1_links, .ref aq1_nodes])), (aT_nodesByLeast, .inl (cI, 24, .inl T_nodesByLeast)), (aT_open, .inl (cZ, 24, .inl T_open)), (aq1_parts, .inl (cI, 24, .inl q1_parts))] [(aT, .inr (1, [.int T_total, .int (res.1), .ref aT_totals, .ref aT_whole, .ref aT_open, .ref aT_nodesByLeast])), (aq1, .inr (2, [.ref aq1_points, .int q1_count, .ref aq1_keys, .ref aq1_aparts, .ref aq1_roots, .ref aq1_firsts, .ref aq1_seconds, .ref aq1_parts, .ref aq1_firstSides, .ref aq1_otherSides, .ref aq1_joinsAbove, .ref aq1_pointsAbove, .ref aq1_pairs, .ref aq1_links, .ref aq1_nodes])), (aT_nodesByLeast, .inl (cI, 24, .inl (res.2.1))), (aT_open, .inl (cZ, 24, .inl (res.2.2))), (aq1_parts, .inl (cI, 24, .inl q1_parts))] := by
  refine Cv.ofv cX1_openNode 4 (own := RX1) (by decide +kernel) rfl rfl (Nat.le_of_ble_eq_true rfl) ?_
  intro X S hR0
  have hR : ∀ (r9 : Int32 × (Nat → Int32) × (Nat → Int32)) (pc : Nat) (lv : List (Nat × Value)), some r9 = some res → decode cX1_openNode pc = .ok (.return_, 1) → G X pc lv [] [(aT, .inr (1, [.int T_total, .int (r9.1), .ref aT_totals, .ref aT_whole, .ref aT_open, .ref aT_nodesByLeast])), (aq1, .inr (2, [.ref aq1_points, .int q1_count, .ref aq1_keys, .ref aq1_aparts, .ref aq1_roots, .ref aq1_firsts, .ref aq1_seconds, .ref aq1_parts, .ref aq1_firstSides, .ref aq1_otherSides, .ref aq1_joinsAbove, .ref aq1_pointsAbove, .ref aq1_pairs, .ref aq1_links, .ref aq1_nodes])), (aT_nodesByLeast, .inl (cI, 24, .inl (r9.2.1))), (aT_open, .inl (cZ, 24, .inl (r9.2.2))), (aq1_parts, .inl (cI, 24, .inl q1_parts))] := fun r9 pc lv h9 hd => by cases h9; exact hR0 pc lv hd
  show G X 0 [(0, .ref aT), (1, .ref aq1), (2, .int x2)] [] [(aT, .inr (1, [.int T_total, .int T_count, .ref aT_totals, .ref aT_whole, .ref aT_open, .ref aT_nodesByLeast])), (aq1, .inr (2, [.ref aq1_points, .int q1_count, .ref aq1_keys, .ref aq1_aparts, .ref aq1_roots, .ref aq1_firsts, .ref aq1_seconds, .ref aq1_parts, .ref aq1_firstSides, .ref aq1_otherSides, .ref aq1_joinsAbove, .ref aq1_pointsAbove, .ref aq1_pairs, .ref aq1_links, .ref aq1_nodes])), (aT_nodesByLeast, .inl (cI, 24, .inl T_nodesByLeast)), (aT_open, .inl (cZ, 24, .inl T_open)), (aq1_parts, .inl (cI, 24, .inl q1_parts))]
  unfold mX1_openNode at hm
  refine r_iload_n S dX1_openNode_0 rfl 2 rfl ?_
  obtain ⟨r1, h_r1, hm⟩ := bS hm
  refine r_calliS S (c_X2_joinOf l0 D0 cI cJ cZ cY F x2 _ h_r1) (gS u1011 u240 u14 u241) ok_X2_joinOf ⟨rfl, rfl⟩ ⟨Nat.le_of_ble_eq_true rfl, Nat.le_of_ble_eq_true rfl⟩ [] [0, 1, 2, 3, 4] rfl (wr := [(aT, .inr (1, [.int T_total, .int T_count, .ref aT_totals, .ref aT_whole, .ref aT_open, .ref aT_nodesByLeast])), (aq1, .inr (2, [.ref aq1_points, .int q1_count, .ref aq1_keys, .ref aq1_aparts, .ref aq1_roots, .ref aq1_firsts, .ref aq1_seconds, .ref aq1_parts, .ref aq1_firstSides, .ref aq1_otherSides, .ref aq1_joinsAbove, .ref aq1_pointsAbove, .ref aq1_pairs, .ref aq1_links, .ref aq1_nodes])), (aT_nodesByLeast, .inl (cI, 24, .inl T_nodesByLeast)), (aT_open, .inl (cZ, 24, .inl T_open)), (aq1_parts, .inl (cI, 24, .inl q1_parts))]) rfl rfl rfl (by decide) (ws' := [(aT, .inr (1, [.int T_total, .int T_count, .ref aT_totals, .ref aT_whole, .ref aT_open, .ref aT_nodesByLeast])), (aq1, .inr (2, [.ref aq1_points, .int q1_count, .ref aq1_keys, .ref aq1_aparts, .ref aq1_roots, .ref aq1_firsts, .ref aq1_seconds, .ref aq1_parts, .ref aq1_firstSides, .ref aq1_otherSides, .ref aq1_joinsAbove, .ref aq1_pointsAbove, .ref aq1_pairs, .ref aq1_links, .ref aq1_nodes])), (aT_nodesByLeast, .inl (cI, 24, .inl T_nodesByLeast)), (aT_open, .inl (cZ, 24, .inl T_open)), (aq1_parts, .inl (cI, 24, .inl q1_parts))]) rfl (As := [.int x2]) (rest := []) rfl rfl (Nat.le_of_ble_eq_true rfl) dX1_openNode_1 ?_
  refine r_istore_n S dX1_openNode_4 rfl (Nat.le_of_ble_eq_true rfl) (lv' := [(3, .int r1), (0, .ref aT), (1, .ref aq1), (2, .int x2)]) rfl ?_
  refine r_iload_n S dX1_openNode_5 rfl 0 rfl ?_
  refine r_iconst (v := (-1 : Int32)) S dX1_openNode_6 rfl ?_
  refine r_icmp_eq 20 S dX1_openNode_7 (by decide) (fun c2 => ?_) (fun c2 => ?_)
  · replace hm := iT c2 hm
    refine r_aload_n S dX1_openNode_20 rfl 1 rfl ?_
    refine r_aload_n S dX1_openNode_21 rfl 2 rfl ?_
    refine r_iload_n S dX1_openNode_22 rfl 3 rfl ?_
    obtain ⟨r3, h_r3, hm⟩ := bS hm
    refine r_callvV S (c_X1_put l0 D0 cI cJ cZ cY F aT aq1 aT_totals aT_whole aT_open aT_nodesByLeast aq1_points aq1_keys aq1_aparts aq1_roots aq1_firsts aq1_seconds aq1_parts aq1_firstSides aq1_otherSides aq1_joinsAbove aq1_pointsAbove aq1_pairs aq1_links aq1_nodes T_total T_count q1_count T_nodesByLeast q1_parts x2 _ h_r3) (gV u1016 u1017 u1018 u37 u1019) ok_X1_put ⟨rfl, rfl⟩ ⟨Nat.le_of_ble_eq_true rfl, Nat.le_of_ble_eq_true rfl⟩ [0, 1, 2, 4] [3] rfl (wr := [(aT_open, .inl (cZ, 24, .inl T_open))]) rfl rfl rfl (by decide) (ci := 1) (T := TX1) 0 rfl rfl (ws' := [(aT_open, .inl (cZ, 24, .inl T_open)), (aT, .inr (1, [.int T_total, .int r3.1, .ref aT_totals, .ref aT_whole, .ref aT_open, .ref aT_nodesByLeast])), (aq1, .inr (2, [.ref aq1_points, .int q1_count, .ref aq1_keys, .ref aq1_aparts, .ref aq1_roots, .ref aq1_firsts, .ref aq1_seconds, .ref aq1_parts, .ref aq1_firstSides, .ref aq1_otherSides, .ref aq1_joinsAbove, .ref aq1_pointsAbove, .ref aq1_pairs, .ref aq1_links, .ref aq1_nodes])), (aT_nodesByLeast, .inl (cI, 24, .inl r3.2)), (aq1_parts, .inl (cI, 24, .inl q1_parts))]) rfl (As := [.ref aq1, .int x2]) (rest := []) rfl rfl (Nat.le_of_ble_eq_true rfl) dX1_openNode_23 ?_
    refine r_perm [1, 2, 3, 0, 4] (ws' := [(aT, .inr (1, [.int T_total, .int r3.1, .ref aT_totals, .ref aT_whole, .ref aT_open, .ref aT_nodesByLeast])), (aq1, .inr (2, [.ref aq1_points, .int q1_count, .ref aq1_keys, .ref aq1_aparts, .ref aq1_roots, .ref aq1_firsts, .ref aq1_seconds, .ref aq1_parts, .ref aq1_firstSides, .ref aq1_otherSides, .ref aq1_joinsAbove, .ref aq1_pointsAbove, .ref aq1_pairs, .ref aq1_links, .ref aq1_nodes])), (aT_nodesByLeast, .inl (cI, 24, .inl r3.2)), (aT_open, .inl (cZ, 24, .inl T_open)), (aq1_parts, .inl (cI, 24, .inl q1_parts))]) rfl rfl ?_
    exact hR (r3.1, r3.2, T_open) _ _ hm dX1_openNode_26
  · replace hm := iF c2 hm
    refine r_aload_n S dX1_openNode_10 rfl 1 rfl ?_
    refine r_get (T := TX1) (ci := 1) S (tlA inlX1) rfl 0 rfl 4 (Nat.le_of_ble_eq_true rfl) (tl u112) rfl dX1_openNode_11 ?_
    refine r_iload_n S dX1_openNode_14 rfl 0 rfl ?_
    refine r_iconst (v := (1 : Int32)) S dX1_openNode_15 rfl ?_
    obtain ⟨g4, h_g4, hm⟩ := bS hm
    refine r_zast S h_g4 3 2 rfl rfl (ws' := [(aT, .inr (1, [.int T_total, .int T_count, .ref aT_totals, .ref aT_whole, .ref aT_open, .ref aT_nodesByLeast])), (aq1, .inr (2, [.ref aq1_points, .int q1_count, .ref aq1_keys, .ref aq1_aparts, .ref aq1_roots, .ref aq1_firsts, .ref aq1_seconds, .ref aq1_parts, .ref aq1_firstSides, .ref aq1_otherSides, .ref aq1_joinsAbove, .ref aq1_pointsAbove, .ref aq1_pairs, .ref aq1_links, .ref aq1_nodes])), (aT_nodesByLeast, .inl (cI, 24, .inl T_nodesByLeast)), (aT_open, .inl (cZ, 24, .inl g4)), (aq1_parts, .inl (cI, 24, .inl q1_parts))]) rfl dX1_openNode_16 ?_
    refine r_goto 26 S dX1_openNode_17 (by decide) ?_
    exact hR (T_count, T_nodesByLeast, g4) _ _ hm dX1_openNode_26
def wtX1_chooseJoins : List Cond := Cond.code yX1_chooseJoins cX1_chooseJoins 3 none :: wsL_law
theorem ok_X1_chooseJoins : CallOK yX1_chooseJoins wtX1_chooseJoins RX1 1 3 := ⟨⟨_, _, _, rfl⟩, rfl, ⟨by decide +kernel, by decide +kernel⟩, by decide +kernel⟩
set_option maxRecDepth 100000 in
set_option maxHeartbeats 4000000 in
theorem c_X1_chooseJoins (l0 : Launch) (D0 : va_G) (cI cJ cZ cY : ClassId) (F : Nat) (aT aq1 aT_totals aT_whole aT_open aT_nodesByLeast aq1_points aq1_keys aq1_aparts aq1_roots aq1_firsts aq1_seconds aq1_parts aq1_firstSides aq1_otherSides aq1_joinsAbove aq1_pointsAbove aq1_pairs aq1_links aq1_nodes : Nat) (T_total : Int32) (T_count : Int32) (q1_count : Int32) (T_nodesByLeast : Nat → Int32) (T_open : Nat → Int32) (T_whole : Nat → Int32) (q1_firstSides : Nat → Int32) (q1_otherSides : Nat → Int32) (q1_parts : Nat → Int32) (res : Int32 × (Nat → Int32) × (Nat → Int32)) (hm : mX1_chooseJoins F T_count q1_count T_nodesByLeast T_open T_whole q1_firstSides q1_otherSides q1_parts = some res) : Cv D0 [(cI, .int), (cJ, .long), (cZ, .boolean), (cY, .array .int)] l0 yX1_chooseJoins wtX1_chooseJoins ({ frames := 5, cells := 0, slots := 0, locals := 110 }) [.ref aT, .ref aq1] [(aT, .inr (1, [.int T_total, .int T_count, .ref aT_totals, .ref aT_whole, .ref aT_open, .ref aT_nodesByLeast])), (aq1, .inr (2, [.ref aq1_points, .int q1_count, .ref aq1_keys, .ref aq1_aparts, .ref aq1_roots, .ref aq1_firsts, .ref aq1_seconds, .ref aq1_parts, .ref aq1_firstSides, .ref aq1_otherSides, .ref aq1_joinsAbove, .ref aq1_pointsAbove, .ref aq1_pairs, .ref aq1_links, .ref aq1_nodes])), (aT_nodesByLeast, .inl (cI, 24, .inl T_nodesByLeast)), (aT_open, .inl (cZ, 24, .inl T_open)), (aT_whole, .inl (cZ, 24, .inl T_whole)), (aq1_firstSides, .inl (cI, 24, .inl q1_firstSides)), (aq1_otherSides, .inl (cI, 24, .inl q1_otherSides)), (aq1_parts, .inl (cI, 24, .inl q1_parts))] [(aT, .inr (1, [.int T_total, .int (res.1), .ref aT_totals, .ref aT_whole, .ref aT_open, .ref aT_nodesByLeast])), (aq1, .inr (2, [.ref aq1_points, .int q1_count, .ref aq1_keys, .ref aq1_aparts, .ref aq1_roots, .ref aq1_firsts, .ref aq1_seconds, .ref aq1_parts, .ref aq1_firstSides, .ref aq1_otherSides, .ref aq1_joinsAbove, .ref aq1_pointsAbove, .ref aq1_pairs, .ref aq1_links, .ref aq1_nodes])), (aT_nodesByLeast, .inl (cI, 24, .inl (res.2.1))), (aT_open, .inl (cZ, 24, .inl (res.2.2))), (aT_whole, .inl (cZ, 24, .inl T_whole)), (aq1_firstSides, .inl (cI, 24, .inl q1_firstSides)), (aq1_otherSides, .inl (cI, 24, .inl q1_otherSides)), (aq1_parts, .inl (cI, 24, .inl q1_parts))] := by
  refine Cv.ofv cX1_chooseJoins 3 (own := RX1) (by decide +kernel) rfl rfl (Nat.le_of_ble_eq_true rfl) ?_
  intro X S hR0
  have hR : ∀ (r9 : Int32 × (Nat → Int32) × (Nat → Int32)) (pc : Nat) (lv : List (Nat × Value)), some r9 = some res → decode cX1_chooseJoins pc = .ok (.return_, 1) → G X pc lv [] [(aT, .inr (1, [.int T_total, .int (r9.1), .ref aT_totals, .ref aT_whole, .ref aT_open, .ref aT_nodesByLeast])), (aq1, .inr (2, [.ref aq1_points, .int q1_count, .ref aq1_keys, .ref aq1_aparts, .ref aq1_roots, .ref aq1_firsts, .ref aq1_seconds, .ref aq1_parts, .ref aq1_firstSides, .ref aq1_otherSides, .ref aq1_joinsAbove, .ref aq1_pointsAbove, .ref aq1_pairs, .ref aq1_links, .ref aq1_nodes])), (aT_nodesByLeast, .inl (cI, 24, .inl (r9.2.1))), (aT_open, .inl (cZ, 24, .inl (r9.2.2))), (aT_whole, .inl (cZ, 24, .inl T_whole)), (aq1_firstSides, .inl (cI, 24, .inl q1_firstSides)), (aq1_otherSides, .inl (cI, 24, .inl q1_otherSides)), (aq1_parts, .inl (cI, 24, .inl q1_parts))] := fun r9 pc lv h9 hd => by cases h9; exact hR0 pc lv hd
  show G X 0 [(0, .ref aT), (1, .ref aq1)] [] [(aT, .inr (1, [.int T_total, .int T_count, .ref aT_totals, .ref aT_whole, .ref aT_open, .ref aT_nodesByLeast])), (aq1, .inr (2, [.ref aq1_points, .int q1_count, .ref aq1_keys, .ref aq1_aparts, .ref aq1_roots, .ref aq1_firsts, .ref aq1_seconds, .ref aq1_parts, .ref aq1_firstSides, .ref aq1_otherSides, .ref aq1_joinsAbove, .ref aq1_pointsAbove, .ref aq1_pairs, .ref aq1_links, .ref aq1_nodes])), (aT_nodesByLeast, .inl (cI, 24, .inl T_nodesByLeast)), (aT_open, .inl (cZ, 24, .inl T_open)), (aT_whole, .inl (cZ, 24, .inl T_whole)), (aq1_firstSides, .inl (cI, 24, .inl q1_firstSides)), (aq1_otherSides, .inl (cI, 24, .inl q1_otherSides)), (aq1_parts, .inl (cI, 24, .inl q1_parts))]
  unfold mX1_chooseJoins at hm
  refine r_aload_n S dX1_chooseJoins_0 rfl 1 rfl ?_
  refine r_get (T := TX2) (ci := 2) S (tlA inlX2) rfl 1 rfl 1 (Nat.le_of_ble_eq_true rfl) (tl u998) rfl dX1_chooseJoins_1 ?_
  refine r_iconst (v := (1 : Int32)) S dX1_chooseJoins_4 rfl ?_
  refine r_isub S dX1_chooseJoins_5 ?_
  obtain ⟨v1, h_v1, hm⟩ := bS hm
  refine r_topI h_v1 ?_
  refine r_istore_n S dX1_chooseJoins_6 rfl (Nat.le_of_ble_eq_true rfl) (lv' := [(2, .int v1), (0, .ref aT), (1, .ref aq1)]) rfl ?_
  have hR7 : ∀ (r9 : Int32 × (Nat → Int32) × (Nat → Int32)) (pc : Nat) (lv : List (Nat × Value)), r9 = res → decode cX1_chooseJoins pc = .ok (.return_, 1) → G X pc lv [] [(aT, .inr (1, [.int T_total, .int (r9.1), .ref aT_totals, .ref aT_whole, .ref aT_open, .ref aT_nodesByLeast])), (aq1, .inr (2, [.ref aq1_points, .int q1_count, .ref aq1_keys, .ref aq1_aparts, .ref aq1_roots, .ref aq1_firsts, .ref aq1_seconds, .ref aq1_parts, .ref aq1_firstSides, .ref aq1_otherSides, .ref aq1_joinsAbove, .ref aq1_pointsAbove, .ref aq1_pairs, .ref aq1_links, .ref aq1_nodes])), (aT_nodesByLeast, .inl (cI, 24, .inl (r9.2.1))), (aT_open, .inl (cZ, 24, .inl (r9.2.2))), (aT_whole, .inl (cZ, 24, .inl T_whole)), (aq1_firstSides, .inl (cI, 24, .inl q1_firstSides)), (aq1_otherSides, .inl (cI, 24, .inl q1_otherSides)), (aq1_parts, .inl (cI, 24, .inl q1_parts))] := fun r9 pc lv h9 hd => hR r9 pc lv (congrArg some h9) hd
  refine r_lv [1, 2, 0] (lv' := [(0, .ref aT), (1, .ref aq1), (2, .int v1)]) rfl ?_
  refine loopG (r0 := res) (Gd := fun s9 => G X 7 [(0, .ref aT), (1, .ref aq1), (2, .int s9.1)] [] [(aT, .inr (1, [.int T_total, .int s9.2.1, .ref aT_totals, .ref aT_whole, .ref aT_open, .ref aT_nodesByLeast])), (aq1, .inr (2, [.ref aq1_points, .int q1_count, .ref aq1_keys, .ref aq1_aparts, .ref aq1_roots, .ref aq1_firsts, .ref aq1_seconds, .ref aq1_parts, .ref aq1_firstSides, .ref aq1_otherSides, .ref aq1_joinsAbove, .ref aq1_pointsAbove, .ref aq1_pairs, .ref aq1_links, .ref aq1_nodes])), (aT_nodesByLeast, .inl (cI, 24, .inl s9.2.2.1)), (aT_open, .inl (cZ, 24, .inl s9.2.2.2)), (aT_whole, .inl (cZ, 24, .inl T_whole)), (aq1_firstSides, .inl (cI, 24, .inl q1_firstSides)), (aq1_otherSides, .inl (cI, 24, .inl q1_otherSides)), (aq1_parts, .inl (cI, 24, .inl q1_parts))]) ?_ _ _ hm
  rintro ⟨x2_7, T_count_7, T_nodesByLeast_7, T_open_7⟩ b7 hm hk7 hr7
  replace hm : mX1_chooseJoins_b7 F T_whole q1_firstSides q1_otherSides q1_parts x2_7 T_count_7 T_nodesByLeast_7 T_open_7 = some b7 := hm
  unfold mX1_chooseJoins_b7 at hm
  show G X 7 [(0, .ref aT), (1, .ref aq1), (2, .int x2_7)] [] [(aT, .inr (1, [.int T_total, .int T_count_7, .ref aT_totals, .ref aT_whole, .ref aT_open, .ref aT_nodesByLeast])), (aq1, .inr (2, [.ref aq1_points, .int q1_count, .ref aq1_keys, .ref aq1_aparts, .ref aq1_roots, .ref aq1_firsts, .ref aq1_seconds, .ref aq1_parts, .ref aq1_firstSides, .ref aq1_otherSides, .ref aq1_joinsAbove, .ref aq1_pointsAbove, .ref aq1_pairs, .ref aq1_links, .ref aq1_nodes])), (aT_nodesByLeast, .inl (cI, 24, .inl T_nodesByLeast_7)), (aT_open, .inl (cZ, 24, .inl T_open_7)), (aT_whole, .inl (cZ, 24, .inl T_whole)), (aq1_firstSides, .inl (cI, 24, .inl q1_firstSides)), (aq1_otherSides, .inl (cI, 24, .inl q1_otherSides)), (aq1_parts, .inl (cI, 24, .inl q1_parts))]
  refine r_iload_n S dX1_chooseJoins_7 rfl 2 rfl ?_
  refine r_if_lt 69 S dX1_chooseJoins_8 (by decide) (fun c3 => ?_) (fun c3 => ?_)
  · replace hm := iT c3 hm
    exact hR7 (T_count_7, T_nodesByLeast_7, T_open_7) _ _ (hr7 _ (Option.some.inj hm).symm) dX1_chooseJoins_69
  · replace hm := iF c3 hm
    refine r_aload_n S dX1_chooseJoins_11 rfl 0 rfl ?_
    refine r_get (T := TX1) (ci := 1) S (tlA inlX1) rfl 0 rfl 4 (Nat.le_of_ble_eq_true rfl) (tl u112) rfl dX1_chooseJoins_12 ?_
    refine r_iload_n S dX1_chooseJoins_15 rfl 2 rfl ?_
    obtain ⟨v4, h_v4, hm⟩ := bS hm
    refine r_zald S h_v4 3 2 rfl rfl dX1_chooseJoins_16 ?_
    refine r_if_eq 63 S dX1_chooseJoins_17 (by decide) (fun c5 => ?_) (fun c5 => ?_)
    · replace hm := iT c5 hm
      refine r_iincc S dX1_chooseJoins_63 2 rfl (c0 := (-1 : Int32)) rfl rfl (Nat.le_of_ble_eq_true rfl) (lv' := [(2, .int (x2_7 + (-1 : Int32))), (0, .ref aT), (1, .ref aq1)]) rfl ?_
      refine r_goto 7 S dX1_chooseJoins_66 (by decide) ?_
      refine r_lv [1, 2, 0] (lv' := [(0, .ref aT), (1, .ref aq1), (2, .int (x2_7 + (-1 : Int32)))]) rfl ?_
      exact hk7 ((x2_7 + (-1 : Int32)), T_count_7, T_nodesByLeast_7, T_open_7) (Option.some.inj hm).symm
    · replace hm := iF c5 hm
      refine r_aload_n S dX1_chooseJoins_20 rfl 0 rfl ?_
      refine r_get (T := TX1) (ci := 1) S (tlA inlX1) rfl 0 rfl 3 (Nat.le_of_ble_eq_true rfl) (tl u111) rfl dX1_chooseJoins_21 ?_
      refine r_iload_n S dX1_chooseJoins_24 rfl 2 rfl ?_
      obtain ⟨v6, h_v6, hm⟩ := bS hm
      refine r_zald S h_v6 4 2 rfl rfl dX1_chooseJoins_25 ?_
      refine r_if_eq 41 S dX1_chooseJoins_26 (by decide) (fun c7 => ?_) (fun c7 => ?_)
      · replace hm := iT c7 hm
        refine r_aload_n S dX1_chooseJoins_41 rfl 0 rfl ?_
        refine r_aload_n S dX1_chooseJoins_42 rfl 1 rfl ?_
        refine r_aload_n S dX1_chooseJoins_43 rfl 1 rfl ?_
        refine r_get (T := TX2) (ci := 2) S (tlA inlX2) rfl 1 rfl 8 (Nat.le_of_ble_eq_true rfl) (tl u1005) rfl dX1_chooseJoins_44 ?_
        refine r_iload_n S dX1_chooseJoins_47 rfl 2 rfl ?_
        obtain ⟨v8, h_v8, hm⟩ := bS hm
        refine r_iald S h_v8 5 0 rfl rfl dX1_chooseJoins_48 ?_
        obtain ⟨r9, h_r9, hm⟩ := bS hm
        refine r_callvV S (c_X1_openNode l0 D0 cI cJ cZ cY F aT aq1 aT_totals aT_whole aT_open aT_nodesByLeast aq1_points aq1_keys aq1_aparts aq1_roots aq1_firsts aq1_seconds aq1_parts aq1_firstSides aq1_otherSides aq1_joinsAbove aq1_pointsAbove aq1_pairs aq1_links aq1_nodes T_total T_count_7 q1_count T_nodesByLeast_7 T_open_7 q1_parts v8 _ h_r9) (gV u1022 u1023 u1024 u37 u1025) ok_X1_openNode ⟨rfl, rfl⟩ ⟨Nat.le_of_ble_eq_true rfl, Nat.le_of_ble_eq_true rfl⟩ [0, 1, 2, 3, 7] [4, 5, 6] rfl (wr := [(aT_whole, .inl (cZ, 24, .inl T_whole)), (aq1_firstSides, .inl (cI, 24, .inl q1_firstSides)), (aq1_otherSides, .inl (cI, 24, .inl q1_otherSides))]) rfl rfl rfl (by decide) (ci := 1) (T := TX1) 0 rfl rfl (ws' := [(aT_whole, .inl (cZ, 24, .inl T_whole)), (aq1_firstSides, .inl (cI, 24, .inl q1_firstSides)), (aq1_otherSides, .inl (cI, 24, .inl q1_otherSides)), (aT, .inr (1, [.int T_total, .int r9.1, .ref aT_totals, .ref aT_whole, .ref aT_open, .ref aT_nodesByLeast])), (aq1, .inr (2, [.ref aq1_points, .int q1_count, .ref aq1_keys, .ref aq1_aparts, .ref aq1_roots, .ref aq1_firsts, .ref aq1_seconds, .ref aq1_parts, .ref aq1_firstSides, .ref aq1_otherSides, .ref aq1_joinsAbove, .ref aq1_pointsAbove, .ref aq1_pairs, .ref aq1_links, .ref aq1_nodes])), (aT_nodesByLeast, .inl (cI, 24, .inl r9.2.1)), (aT_open, .inl (cZ, 24, .inl r9.2.2)), (aq1_parts, .inl (cI, 24, .inl q1_parts))]) rfl (As := [.ref aq1, .int v8]) (rest := []) rfl rfl (Nat.le_of_ble_eq_true rfl) dX1_chooseJoins_49 ?_
        refine r_aload_n S dX1_chooseJoins_52 rfl 0 rfl ?_
        refine r_aload_n S dX1_chooseJoins_53 rfl 1 rfl ?_
        refine r_aload_n S dX1_chooseJoins_54 rfl 1 rfl ?_
        refine r_get (T := TX2) (ci := 2) S (tlA inlX2) rfl 4 rfl 9 (Nat.le_of_ble_eq_true rfl) (tl u1006) rfl dX1_chooseJoins_55 ?_
        refine r_iload_n S dX1_chooseJoins_58 rfl 2 rfl ?_
        obtain ⟨v10, h_v10, hm⟩ := bS hm
        refine r_iald S h_v10 2 0 rfl rfl dX1_chooseJoins_59 ?_
        obtain ⟨r11, h_r11, hm⟩ := bS hm
        refine r_callvV S (c_X1_openNode l0 D0 cI cJ cZ cY F aT aq1 aT_totals aT_whole aT_open aT_nodesByLeast aq1_points aq1_keys aq1_aparts aq1_roots aq1_firsts aq1_seconds aq1_parts aq1_firstSides aq1_otherSides aq1_joinsAbove aq1_pointsAbove aq1_pairs aq1_links aq1_nodes T_total r9.1 q1_count r9.2.1 r9.2.2 q1_parts v10 _ h_r11) (gV u1022 u1023 u1024 u37 u1025) ok_X1_openNode ⟨rfl, rfl⟩ ⟨Nat.le_of_ble_eq_true rfl, Nat.le_of_ble_eq_true rfl⟩ [3, 4, 5, 6, 7] [0, 1, 2] rfl (wr := [(aT_whole, .inl (cZ, 24, .inl T_whole)), (aq1_firstSides, .inl (cI, 24, .inl q1_firstSides)), (aq1_otherSides, .inl (cI, 24, .inl q1_otherSides))]) rfl rfl rfl (by decide) (ci := 1) (T := TX1) 0 rfl rfl (ws' := [(aT_whole, .inl (cZ, 24, .inl T_whole)), (aq1_firstSides, .inl (cI, 24, .inl q1_firstSides)), (aq1_otherSides, .inl (cI, 24, .inl q1_otherSides)), (aT, .inr (1, [.int T_total, .int r11.1, .ref aT_totals, .ref aT_whole, .ref aT_open, .ref aT_nodesByLeast])), (aq1, .inr (2, [.ref aq1_points, .int q1_count, .ref aq1_keys, .ref aq1_aparts, .ref aq1_roots, .ref aq1_firsts, .ref aq1_seconds, .ref aq1_parts, .ref aq1_firstSides, .ref aq1_otherSides, .ref aq1_joinsAbove, .ref aq1_pointsAbove, .ref aq1_pairs, .ref aq1_links, .ref aq1_nodes])), (aT_nodesByLeast, .inl (cI, 24, .inl r11.2.1)), (aT_open, .inl (cZ, 24, .inl r11.2.2)), (aq1_parts, .inl (cI, 24, .inl q1_parts))]) rfl (As := [.ref aq1, .int v10]) (rest := []) rfl rfl (Nat.le_of_ble_eq_true rfl) dX1_chooseJoins_60 ?_
        refine r_iincc S dX1_chooseJoins_63 2 rfl (c0 := (-1 : Int32)) rfl rfl (Nat.le_of_ble_eq_true rfl) (lv' := [(2, .int (x2_7 + (-1 : Int32))), (0, .ref aT), (1, .ref aq1)]) rfl ?_
        refine r_goto 7 S dX1_chooseJoins_66 (by decide) ?_
        refine r_perm [3, 4, 5, 6, 0, 1, 2, 7] (ws' := [(aT, .inr (1, [.int T_total, .int r11.1, .ref aT_totals, .ref aT_whole, .ref aT_open, .ref aT_nodesByLeast])), (aq1, .inr (2, [.ref aq1_points, .int q1_count, .ref aq1_keys, .ref aq1_aparts, .ref aq1_roots, .ref aq1_firsts, .ref aq1_seconds, .ref aq1_parts, .ref aq1_firstSides, .ref aq1_otherSides, .ref aq1_joinsAbove, .ref aq1_pointsAbove, .ref aq1_pairs, .ref aq1_links, .ref aq1_nodes])), (aT_nodesByLeast, .inl (cI, 24, .inl r11.2.1)), (aT_open, .inl (cZ, 24, .inl r11.2.2)), (aT_whole, .inl (cZ, 24, .inl T_whole)), (aq1_firstSides, .inl (cI, 24, .inl q1_firstSides)), (aq1_otherSides, .inl (cI, 24, .inl q1_otherSides)), (aq1_parts, .inl (cI, 24, .inl q1_parts))]) rfl rfl ?_
        refine r_lv [1, 2, 0] (lv' := [(0, .ref aT), (1, .ref aq1), (2, .int (x2_7 + (-1 : Int32)))]) rfl ?_
        exact hk7 ((x2_7 + (-1 : Int32)), r11.1, r11.2.1, r11.2.2) (Option.some.inj hm).symm
      · replace hm := iF c7 hm
        refine r_aload_n S dX1_chooseJoins_29 rfl 0 rfl ?_
        refine r_aload_n S dX1_chooseJoins_30 rfl 1 rfl ?_
        refine r_bipush (v := (100 : Int32)) S dX1_chooseJoins_31 rfl ?_
        refine r_iload_n S dX1_chooseJoins_33 rfl 2 rfl ?_
        refine r_iadd S dX1_chooseJoins_34 ?_
        obtain ⟨r12, h_r12, hm⟩ := bS hm
        refine r_callvV S (c_X1_put l0 D0 cI cJ cZ cY F aT aq1 aT_totals aT_whole aT_open aT_nodesByLeast aq1_points aq1_keys aq1_aparts aq1_roots aq1_firsts aq1_seconds aq1_parts aq1_firstSides aq1_otherSides aq1_joinsAbove aq1_pointsAbove aq1_pairs aq1_links aq1_nodes T_total T_count_7 q1_count T_nodesByLeast_7 q1_parts ((100 : Int32) + x2_7) _ h_r12) (gV u1016 u1017 u1018 u37 u1019) ok_X1_put ⟨rfl, rfl⟩ ⟨Nat.le_of_ble_eq_true rfl, Nat.le_of_ble_eq_true rfl⟩ [0, 1, 2, 7] [3, 4, 5, 6] rfl (wr := [(aT_open, .inl (cZ, 24, .inl T_open_7)), (aT_whole, .inl (cZ, 24, .inl T_whole)), (aq1_firstSides, .inl (cI, 24, .inl q1_firstSides)), (aq1_otherSides, .inl (cI, 24, .inl q1_otherSides))]) rfl rfl rfl (by decide) (ci := 1) (T := TX1) 0 rfl rfl (ws' := [(aT_open, .inl (cZ, 24, .inl T_open_7)), (aT_whole, .inl (cZ, 24, .inl T_whole)), (aq1_firstSides, .inl (cI, 24, .inl q1_firstSides)), (aq1_otherSides, .inl (cI, 24, .inl q1_otherSides)), (aT, .inr (1, [.int T_total, .int r12.1, .ref aT_totals, .ref aT_whole, .ref aT_open, .ref aT_nodesByLeast])), (aq1, .inr (2, [.ref aq1_points, .int q1_count, .ref aq1_keys, .ref aq1_aparts, .ref aq1_roots, .ref aq1_firsts, .ref aq1_seconds, .ref aq1_parts, .ref aq1_firstSides, .ref aq1_otherSides, .ref aq1_joinsAbove, .ref aq1_pointsAbove, .ref aq1_pairs, .ref aq1_links, .ref aq1_nodes])), (aT_nodesByLeast, .inl (cI, 24, .inl r12.2)), (aq1_parts, .inl (cI, 24, .inl q1_parts))]) rfl (As := [.ref aq1, .int ((100 : Int32) + x2_7)]) (rest := []) rfl rfl (Nat.le_of_ble_eq_true rfl) dX1_chooseJoins_35 ?_
        refine r_goto 63 S dX1_chooseJoins_38 (by decide) ?_
        refine r_iincc S dX1_chooseJoins_63 2 rfl (c0 := (-1 : Int32)) rfl rfl (Nat.le_of_ble_eq_true rfl) (lv' := [(2, .int (x2_7 + (-1 : Int32))), (0, .ref aT), (1, .ref aq1)]) rfl ?_
        refine r_goto 7 S dX1_chooseJoins_66 (by decide) ?_
        refine r_perm [4, 5, 6, 0, 1, 2, 3, 7] (ws' := [(aT, .inr (1, [.int T_total, .int r12.1, .ref aT_totals, .ref aT_whole, .ref aT_open, .ref aT_nodesByLeast])), (aq1, .inr (2, [.ref aq1_points, .int q1_count, .ref aq1_keys, .ref aq1_aparts, .ref aq1_roots, .ref aq1_firsts, .ref aq1_seconds, .ref aq1_parts, .ref aq1_firstSides, .ref aq1_otherSides, .ref aq1_joinsAbove, .ref aq1_pointsAbove, .ref aq1_pairs, .ref aq1_links, .ref aq1_nodes])), (aT_nodesByLeast, .inl (cI, 24, .inl r12.2)), (aT_open, .inl (cZ, 24, .inl T_open_7)), (aT_whole, .inl (cZ, 24, .inl T_whole)), (aq1_firstSides, .inl (cI, 24, .inl q1_firstSides)), (aq1_otherSides, .inl (cI, 24, .inl q1_otherSides)), (aq1_parts, .inl (cI, 24, .inl q1_parts))]) rfl rfl ?_
        refine r_lv [1, 2, 0] (lv' := [(0, .ref aT), (1, .ref aq1), (2, .int (x2_7 + (-1 : Int32)))]) rfl ?_
        exact hk7 ((x2_7 + (-1 : Int32)), r12.1, r12.2, T_open_7) (Option.some.inj hm).symm
def wtX1_choose : List Cond := Cond.code yX1_choose cX1_choose 5 none :: wsL_law
theorem ok_X1_choose : CallOK yX1_choose wtX1_choose RX1 1 5 := ⟨⟨_, _, _, rfl⟩, rfl, ⟨by decide +kernel, by decide +kernel⟩, by decide +kernel⟩
set_option maxRecDepth 100000 in
set_option maxHeartbeats 4000000 in
theorem c_X1_choose (l0 : Launch) (D0 : va_G) (cI cJ cZ cY : ClassId) (F : Nat) (aT aq1 aT_totals aT_whole aT_open aT_nodesByLeast aq1_points aq1_keys aq1_aparts aq1_roots aq1_firsts aq1_seconds aq1_parts aq1_firstSides aq1_otherSides aq1_joinsAbove aq1_pointsAbove aq1_pairs aq1_links aq1_nodes aq1_points_xs aq1_points_ys aq1_points_ws : Nat) (T_total : Int32) (T_count : Int32) (q1_count : Int32) (q1_points_count : Int32) (T_nodesByLeast : Nat → Int32) (T_open : Nat → Int32) (T_totals : Nat → Int32) (T_whole : Nat → Int32) (q1_firstSides : Nat → Int32) (q1_joinsAbove : Nat → Int32) (q1_otherSides : Nat → Int32) (q1_parts : Nat → Int32) (q1_points_ws : Nat → Int32) (q1_pointsAbove : Nat → Int32) (q1_roots : Nat → Int32) (res : Int32 × Int32 × (Nat → Int32) × (Nat → Int32) × (Nat → Int32) × (Nat → Int32)) (hm : mX1_choose F T_total T_count q1_count q1_points_count T_nodesByLeast T_open T_totals T_whole q1_firstSides q1_joinsAbove q1_otherSides q1_parts q1_points_ws q1_pointsAbove q1_roots = some res) : Cv D0 [(cI, .int), (cJ, .long), (cZ, .boolean), (cY, .array .int)] l0 yX1_choose wtX1_choose ({ frames := 6, cells := 0, slots := 0, locals := 132 }) [.ref aT, .ref aq1] [(aT, .inr (1, [.int T_total, .int T_count, .ref aT_totals, .ref aT_whole, .ref aT_open, .ref aT_nodesByLeast])), (aq1, .inr (2, [.ref aq1_points, .int q1_count, .ref aq1_keys, .ref aq1_aparts, .ref aq1_roots, .ref aq1_firsts, .ref aq1_seconds, .ref aq1_parts, .ref aq1_firstSides, .ref aq1_otherSides, .ref aq1_joinsAbove, .ref aq1_pointsAbove, .ref aq1_pairs, .ref aq1_links, .ref aq1_nodes])), (aq1_points, .inr (4, [.int q1_points_count, .ref aq1_points_xs, .ref aq1_points_ys, .ref aq1_points_ws])), (aT_nodesByLeast, .inl (cI, 24, .inl T_nodesByLeast)), (aT_open, .inl (cZ, 24, .inl T_open)), (aT_totals, .inl (cI, 24, .inl T_totals)), (aT_whole, .inl (cZ, 24, .inl T_whole)), (aq1_firstSides, .inl (cI, 24, .inl q1_firstSides)), (aq1_joinsAbove, .inl (cI, 24, .inl q1_joinsAbove)), (aq1_otherSides, .inl (cI, 24, .inl q1_otherSides)), (aq1_parts, .inl (cI, 24, .inl q1_parts)), (aq1_points_ws, .inl (cI, 24, .inl q1_points_ws)), (aq1_pointsAbove, .inl (cI, 24, .inl q1_pointsAbove)), (aq1_roots, .inl (cI, 24, .inl q1_roots))] [(aT, .inr (1, [.int (res.2.1), .int (res.1), .ref aT_totals, .ref aT_whole, .ref aT_open, .ref aT_nodesByLeast])), (aq1, .inr (2, [.ref aq1_points, .int q1_count, .ref aq1_keys, .ref aq1_aparts, .ref aq1_roots, .ref aq1_firsts, .ref aq1_seconds, .ref aq1_parts, .ref aq1_firstSides, .ref aq1_otherSides, .ref aq1_joinsAbove, .ref aq1_pointsAbove, .ref aq1_pairs, .ref aq1_links, .ref aq1_nodes])), (aq1_points, .inr (4, [.int q1_points_count, .ref aq1_points_xs, .ref aq1_points_ys, .ref aq1_points_ws])), (aT_nodesByLeast, .inl (cI, 24, .inl (res.2.2.1))), (aT_open, .inl (cZ, 24, .inl (res.2.2.2.1))), (aT_totals, .inl (cI, 24, .inl (res.2.2.2.2.1))), (aT_whole, .inl (cZ, 24, .inl (res.2.2.2.2.2))), (aq1_firstSides, .inl (cI, 24, .inl q1_firstSides)), (aq1_joinsAbove, .inl (cI, 24, .inl q1_joinsAbove)), (aq1_otherSides, .inl (cI, 24, .inl q1_otherSides)), (aq1_parts, .inl (cI, 24, .inl q1_parts)), (aq1_points_ws, .inl (cI, 24, .inl q1_points_ws)), (aq1_pointsAbove, .inl (cI, 24, .inl q1_pointsAbove)), (aq1_roots, .inl (cI, 24, .inl q1_roots))] := by
  refine Cv.ofv cX1_choose 5 (own := RX1) (by decide +kernel) rfl rfl (Nat.le_of_ble_eq_true rfl) ?_
  intro X S hR0
  have hR : ∀ (r9 : Int32 × Int32 × (Nat → Int32) × (Nat → Int32) × (Nat → Int32) × (Nat → Int32)) (pc : Nat) (lv : List (Nat × Value)), some r9 = some res → decode cX1_choose pc = .ok (.return_, 1) → G X pc lv [] [(aT, .inr (1, [.int (r9.2.1), .int (r9.1), .ref aT_totals, .ref aT_whole, .ref aT_open, .ref aT_nodesByLeast])), (aq1, .inr (2, [.ref aq1_points, .int q1_count, .ref aq1_keys, .ref aq1_aparts, .ref aq1_roots, .ref aq1_firsts, .ref aq1_seconds, .ref aq1_parts, .ref aq1_firstSides, .ref aq1_otherSides, .ref aq1_joinsAbove, .ref aq1_pointsAbove, .ref aq1_pairs, .ref aq1_links, .ref aq1_nodes])), (aq1_points, .inr (4, [.int q1_points_count, .ref aq1_points_xs, .ref aq1_points_ys, .ref aq1_points_ws])), (aT_nodesByLeast, .inl (cI, 24, .inl (r9.2.2.1))), (aT_open, .inl (cZ, 24, .inl (r9.2.2.2.1))), (aT_totals, .inl (cI, 24, .inl (r9.2.2.2.2.1))), (aT_whole, .inl (cZ, 24, .inl (r9.2.2.2.2.2))), (aq1_firstSides, .inl (cI, 24, .inl q1_firstSides)), (aq1_joinsAbove, .inl (cI, 24, .inl q1_joinsAbove)), (aq1_otherSides, .inl (cI, 24, .inl q1_otherSides)), (aq1_parts, .inl (cI, 24, .inl q1_parts)), (aq1_points_ws, .inl (cI, 24, .inl q1_points_ws)), (aq1_pointsAbove, .inl (cI, 24, .inl q1_pointsAbove)), (aq1_roots, .inl (cI, 24, .inl q1_roots))] := fun r9 pc lv h9 hd => by cases h9; exact hR0 pc lv hd
  show G X 0 [(0, .ref aT), (1, .ref aq1)] [] [(aT, .inr (1, [.int T_total, .int T_count, .ref aT_totals, .ref aT_whole, .ref aT_open, .ref aT_nodesByLeast])), (aq1, .inr (2, [.ref aq1_points, .int q1_count, .ref aq1_keys, .ref aq1_aparts, .ref aq1_roots, .ref aq1_firsts, .ref aq1_seconds, .ref aq1_parts, .ref aq1_firstSides, .ref aq1_otherSides, .ref aq1_joinsAbove, .ref aq1_pointsAbove, .ref aq1_pairs, .ref aq1_links, .ref aq1_nodes])), (aq1_points, .inr (4, [.int q1_points_count, .ref aq1_points_xs, .ref aq1_points_ys, .ref aq1_points_ws])), (aT_nodesByLeast, .inl (cI, 24, .inl T_nodesByLeast)), (aT_open, .inl (cZ, 24, .inl T_open)), (aT_totals, .inl (cI, 24, .inl T_totals)), (aT_whole, .inl (cZ, 24, .inl T_whole)), (aq1_firstSides, .inl (cI, 24, .inl q1_firstSides)), (aq1_joinsAbove, .inl (cI, 24, .inl q1_joinsAbove)), (aq1_otherSides, .inl (cI, 24, .inl q1_otherSides)), (aq1_parts, .inl (cI, 24, .inl q1_parts)), (aq1_points_ws, .inl (cI, 24, .inl q1_points_ws)), (aq1_pointsAbove, .inl (cI, 24, .inl q1_pointsAbove)), (aq1_roots, .inl (cI, 24, .inl q1_roots))]
  unfold mX1_choose at hm
  refine r_aload_n S dX1_choose_0 rfl 0 rfl ?_
  refine r_iconst (v := (0 : Int32)) S dX1_choose_1 rfl ?_
  refine r_put (T := TX1) (ci := 1) S (tlA inlX1) tyX1 tyX1_ok nmX1 rfl 0 rfl 0 (Nat.le_of_ble_eq_true rfl) (tl u107) rfl rfl rfl (Nat.le_of_ble_eq_true rfl) (ws' := [(aT, .inr (1, [.int (0 : Int32), .int T_count, .ref aT_totals, .ref aT_whole, .ref aT_open, .ref aT_nodesByLeast])), (aq1, .inr (2, [.ref aq1_points, .int q1_count, .ref aq1_keys, .ref aq1_aparts, .ref aq1_roots, .ref aq1_firsts, .ref aq1_seconds, .ref aq1_parts, .ref aq1_firstSides, .ref aq1_otherSides, .ref aq1_joinsAbove, .ref aq1_pointsAbove, .ref aq1_pairs, .ref aq1_links, .ref aq1_nodes])), (aq1_points, .inr (4, [.int q1_points_count, .ref aq1_points_xs, .ref aq1_points_ys, .ref aq1_points_ws])), (aT_nodesByLeast, .inl (cI, 24, .inl T_nodesByLeast)), (aT_open, .inl (cZ, 24, .inl T_open)), (aT_totals, .inl (cI, 24, .inl T_totals)), (aT_whole, .inl (cZ, 24, .inl T_whole)), (aq1_firstSides, .inl (cI, 24, .inl q1_firstSides)), (aq1_joinsAbove, .inl (cI, 24, .inl q1_joinsAbove)), (aq1_otherSides, .inl (cI, 24, .inl q1_otherSides)), (aq1_parts, .inl (cI, 24, .inl q1_parts)), (aq1_points_ws, .inl (cI, 24, .inl q1_points_ws)), (aq1_pointsAbove, .inl (cI, 24, .inl q1_pointsAbove)), (aq1_roots, .inl (cI, 24, .inl q1_roots))]) rfl dX1_choose_2 ?_
  refine r_aload_n S dX1_choose_5 rfl 0 rfl ?_
  refine r_iconst (v := (0 : Int32)) S dX1_choose_6 rfl ?_
  refine r_put (T := TX1) (ci := 1) S (tlA inlX1) tyX1 tyX1_ok nmX1 rfl 0 rfl 1 (Nat.le_of_ble_eq_true rfl) (tl u108) rfl rfl rfl (Nat.le_of_ble_eq_true rfl) (ws' := [(aT, .inr (1, [.int (0 : Int32), .int (0 : Int32), .ref aT_totals, .ref aT_whole, .ref aT_open, .ref aT_nodesByLeast])), (aq1, .inr (2, [.ref aq1_points, .int q1_count, .ref aq1_keys, .ref aq1_aparts, .ref aq1_roots, .ref aq1_firsts, .ref aq1_seconds, .ref aq1_parts, .ref aq1_firstSides, .ref aq1_otherSides, .ref aq1_joinsAbove, .ref aq1_pointsAbove, .ref aq1_pairs, .ref aq1_links, .ref aq1_nodes])), (aq1_points, .inr (4, [.int q1_points_count, .ref aq1_points_xs, .ref aq1_points_ys, .ref aq1_points_ws])), (aT_nodesByLeast, .inl (cI, 24, .inl T_nodesByLeast)), (aT_open, .inl (cZ, 24, .inl T_open)), (aT_totals, .inl (cI, 24, .inl T_totals)), (aT_whole, .inl (cZ, 24, .inl T_whole)), (aq1_firstSides, .inl (cI, 24, .inl q1_firstSides)), (aq1_joinsAbove, .inl (cI, 24, .inl q1_joinsAbove)), (aq1_otherSides, .inl (cI, 24, .inl q1_otherSides)), (aq1_parts, .inl (cI, 24, .inl q1_parts)), (aq1_points_ws, .inl (cI, 24, .inl q1_points_ws)), (aq1_pointsAbove, .inl (cI, 24, .inl q1_pointsAbove)), (aq1_roots, .inl (cI, 24, .inl q1_roots))]) rfl dX1_choose_7 ?_
  refine r_iconst (v := (0 : Int32)) S dX1_choose_10 rfl ?_
  refine r_istore_n S dX1_choose_11 rfl (Nat.le_of_ble_eq_true rfl) (lv' := [(2, .int (0 : Int32)), (0, .ref aT), (1, .ref aq1)]) rfl ?_
  obtain ⟨q1, hl12, hm⟩ := bS hm
  have hE12_36 : ∀ (r1 : (Nat → Int32)), r1 = q1 → G X 36 [(0, .ref aT), (1, .ref aq1)] [] [(aT, .inr (1, [.int (0 : Int32), .int (0 : Int32), .ref aT_totals, .ref aT_whole, .ref aT_open, .ref aT_nodesByLeast])), (aq1, .inr (2, [.ref aq1_points, .int q1_count, .ref aq1_keys, .ref aq1_aparts, .ref aq1_roots, .ref aq1_firsts, .ref aq1_seconds, .ref aq1_parts, .ref aq1_firstSides, .ref aq1_otherSides, .ref aq1_joinsAbove, .ref aq1_pointsAbove, .ref aq1_pairs, .ref aq1_links, .ref aq1_nodes])), (aq1_points, .inr (4, [.int q1_points_count, .ref aq1_points_xs, .ref aq1_points_ys, .ref aq1_points_ws])), (aT_nodesByLeast, .inl (cI, 24, .inl r1)), (aT_open, .inl (cZ, 24, .inl T_open)), (aT_totals, .inl (cI, 24, .inl T_totals)), (aT_whole, .inl (cZ, 24, .inl T_whole)), (aq1_firstSides, .inl (cI, 24, .inl q1_firstSides)), (aq1_joinsAbove, .inl (cI, 24, .inl q1_joinsAbove)), (aq1_otherSides, .inl (cI, 24, .inl q1_otherSides)), (aq1_parts, .inl (cI, 24, .inl q1_parts)), (aq1_points_ws, .inl (cI, 24, .inl q1_points_ws)), (aq1_pointsAbove, .inl (cI, 24, .inl q1_pointsAbove)), (aq1_roots, .inl (cI, 24, .inl q1_roots))] := by
    intro r1 h9
    subst h9
    refine r_iconst (v := (0 : Int32)) S dX1_choose_36 rfl ?_
    refine r_istore_n S dX1_choose_37 rfl (Nat.le_of_ble_eq_true rfl) (lv' := [(2, .int (0 : Int32)), (0, .ref aT), (1, .ref aq1)]) rfl ?_
    obtain ⟨q4, hl38, hm⟩ := bS hm
    have hE38_119 : ∀ (r4 : (Nat → Int32) × (Nat → Int32) × (Nat → Int32)), r4 = q4 → G X 119 [(0, .ref aT), (1, .ref aq1)] [] [(aT, .inr (1, [.int (0 : Int32), .int (0 : Int32), .ref aT_totals, .ref aT_whole, .ref aT_open, .ref aT_nodesByLeast])), (aq1, .inr (2, [.ref aq1_points, .int q1_count, .ref aq1_keys, .ref aq1_aparts, .ref aq1_roots, .ref aq1_firsts, .ref aq1_seconds, .ref aq1_parts, .ref aq1_firstSides, .ref aq1_otherSides, .ref aq1_joinsAbove, .ref aq1_pointsAbove, .ref aq1_pairs, .ref aq1_links, .ref aq1_nodes])), (aq1_points, .inr (4, [.int q1_points_count, .ref aq1_points_xs, .ref aq1_points_ys, .ref aq1_points_ws])), (aT_nodesByLeast, .inl (cI, 24, .inl r1)), (aT_open, .inl (cZ, 24, .inl r4.1)), (aT_totals, .inl (cI, 24, .inl r4.2.1)), (aT_whole, .inl (cZ, 24, .inl r4.2.2)), (aq1_firstSides, .inl (cI, 24, .inl q1_firstSides)), (aq1_joinsAbove, .inl (cI, 24, .inl q1_joinsAbove)), (aq1_otherSides, .inl (cI, 24, .inl q1_otherSides)), (aq1_parts, .inl (cI, 24, .inl q1_parts)), (aq1_points_ws, .inl (cI, 24, .inl q1_points_ws)), (aq1_pointsAbove, .inl (cI, 24, .inl q1_pointsAbove)), (aq1_roots, .inl (cI, 24, .inl q1_roots))] := by
      intro r4 h9
      subst h9
      refine r_aload_n S dX1_choose_119 rfl 1 rfl ?_
      refine r_get (T := TX2) (ci := 2) S (tlA inlX2) rfl 1 rfl 1 (Nat.le_of_ble_eq_true rfl) (tl u998) rfl dX1_choose_120 ?_
      refine r_if_le 149 S dX1_choose_123 (by decide) (fun c15 => ?_) (fun c15 => ?_)
      · replace hm := iT c15 hm
        refine r_aload_n S dX1_choose_149 rfl 1 rfl ?_
        refine r_get (T := TX2) (ci := 2) S (tlA inlX2) rfl 1 rfl 0 (Nat.le_of_ble_eq_true rfl) (tl u996) rfl dX1_choose_150 ?_
        refine r_get (T := TX4) (ci := 4) S (tlA inlX4) rfl 2 rfl 0 (Nat.le_of_ble_eq_true rfl) (tl u997) rfl dX1_choose_153 ?_
        refine r_if_le 165 S dX1_choose_156 (by decide) (fun c16 => ?_) (fun c16 => ?_)
        · replace hm := iT c16 hm
          exact hR ((0 : Int32), (0 : Int32), r1, r4.1, r4.2.1, r4.2.2) _ _ hm dX1_choose_165
        · replace hm := iF c16 hm
          refine r_aload_n S dX1_choose_159 rfl 0 rfl ?_
          refine r_aload_n S dX1_choose_160 rfl 1 rfl ?_
          refine r_iconst (v := (0 : Int32)) S dX1_choose_161 rfl ?_
          obtain ⟨r17, h_r17, hm⟩ := bS hm
          refine r_callvV S (c_X1_put l0 D0 cI cJ cZ cY F aT aq1 aT_totals aT_whole aT_open aT_nodesByLeast aq1_points aq1_keys aq1_aparts aq1_roots aq1_firsts aq1_seconds aq1_parts aq1_firstSides aq1_otherSides aq1_joinsAbove aq1_pointsAbove aq1_pairs aq1_links aq1_nodes (0 : Int32) (0 : Int32) q1_count r1 q1_parts (0 : Int32) _ h_r17) (gV u1016 u1017 u1018 u37 u1019) ok_X1_put ⟨rfl, rfl⟩ ⟨Nat.le_of_ble_eq_true rfl, Nat.le_of_ble_eq_true rfl⟩ [0, 1, 3, 10] [2, 4, 5, 6, 7, 8, 9, 11, 12, 13] rfl (wr := [(aq1_points, .inr (4, [.int q1_points_count, .ref aq1_points_xs, .ref aq1_points_ys, .ref aq1_points_ws])), (aT_open, .inl (cZ, 24, .inl r4.1)), (aT_totals, .inl (cI, 24, .inl r4.2.1)), (aT_whole, .inl (cZ, 24, .inl r4.2.2)), (aq1_firstSides, .inl (cI, 24, .inl q1_firstSides)), (aq1_joinsAbove, .inl (cI, 24, .inl q1_joinsAbove)), (aq1_otherSides, .inl (cI, 24, .inl q1_otherSides)), (aq1_points_ws, .inl (cI, 24, .inl q1_points_ws)), (aq1_pointsAbove, .inl (cI, 24, .inl q1_pointsAbove)), (aq1_roots, .inl (cI, 24, .inl q1_roots))]) rfl rfl rfl (by decide) (ci := 1) (T := TX1) 0 rfl rfl (ws' := [(aq1_points, .inr (4, [.int q1_points_count, .ref aq1_points_xs, .ref aq1_points_ys, .ref aq1_points_ws])), (aT_open, .inl (cZ, 24, .inl r4.1)), (aT_totals, .inl (cI, 24, .inl r4.2.1)), (aT_whole, .inl (cZ, 24, .inl r4.2.2)), (aq1_firstSides, .inl (cI, 24, .inl q1_firstSides)), (aq1_joinsAbove, .inl (cI, 24, .inl q1_joinsAbove)), (aq1_otherSides, .inl (cI, 24, .inl q1_otherSides)), (aq1_points_ws, .inl (cI, 24, .inl q1_points_ws)), (aq1_pointsAbove, .inl (cI, 24, .inl q1_pointsAbove)), (aq1_roots, .inl (cI, 24, .inl q1_roots)), (aT, .inr (1, [.int (0 : Int32), .int r17.1, .ref aT_totals, .ref aT_whole, .ref aT_open, .ref aT_nodesByLeast])), (aq1, .inr (2, [.ref aq1_points, .int q1_count, .ref aq1_keys, .ref aq1_aparts, .ref aq1_roots, .ref aq1_firsts, .ref aq1_seconds, .ref aq1_parts, .ref aq1_firstSides, .ref aq1_otherSides, .ref aq1_joinsAbove, .ref aq1_pointsAbove, .ref aq1_pairs, .ref aq1_links, .ref aq1_nodes])), (aT_nodesByLeast, .inl (cI, 24, .inl r17.2)), (aq1_parts, .inl (cI, 24, .inl q1_parts))]) rfl (As := [.ref aq1, .int (0 : Int32)]) (rest := []) rfl rfl (Nat.le_of_ble_eq_true rfl) dX1_choose_162 ?_
          refine r_perm [10, 11, 0, 12, 1, 2, 3, 4, 5, 6, 13, 7, 8, 9] (ws' := [(aT, .inr (1, [.int (0 : Int32), .int r17.1, .ref aT_totals, .ref aT_whole, .ref aT_open, .ref aT_nodesByLeast])), (aq1, .inr (2, [.ref aq1_points, .int q1_count, .ref aq1_keys, .ref aq1_aparts, .ref aq1_roots, .ref aq1_firsts, .ref aq1_seconds, .ref aq1_parts, .ref aq1_firstSides, .ref aq1_otherSides, .ref aq1_joinsAbove, .ref aq1_pointsAbove, .ref aq1_pairs, .ref aq1_links, .ref aq1_nodes])), (aq1_points, .inr (4, [.int q1_points_count, .ref aq1_points_xs, .ref aq1_points_ys, .ref aq1_points_ws])), (aT_nodesByLeast, .inl (cI, 24, .inl r17.2)), (aT_open, .inl (cZ, 24, .inl r4.1)), (aT_totals, .inl (cI, 24, .inl r4.2.1)), (aT_whole, .inl (cZ, 24, .inl r4.2.2)), (aq1_firstSides, .inl (cI, 24, .inl q1_firstSides)), (aq1_joinsAbove, .inl (cI, 24, .inl q1_joinsAbove)), (aq1_otherSides, .inl (cI, 24, .inl q1_otherSides)), (aq1_parts, .inl (cI, 24, .inl q1_parts)), (aq1_points_ws, .inl (cI, 24, .inl q1_points_ws)), (aq1_pointsAbove, .inl (cI, 24, .inl q1_pointsAbove)), (aq1_roots, .inl (cI, 24, .inl q1_roots))]) rfl rfl ?_
          exact hR (r17.1, (0 : Int32), r17.2, r4.1, r4.2.1, r4.2.2) _ _ hm dX1_choose_165
      · replace hm := iF c15 hm
        refine r_aload_n S dX1_choose_126 rfl 0 rfl ?_
        refine r_aload_n S dX1_choose_127 rfl 0 rfl ?_
        refine r_get (T := TX1) (ci := 1) S (tlA inlX1) rfl 0 rfl 2 (Nat.le_of_ble_eq_true rfl) (tl u109) rfl dX1_choose_128 ?_
        refine r_aload_n S dX1_choose_131 rfl 1 rfl ?_
        refine r_get (T := TX2) (ci := 2) S (tlA inlX2) rfl 1 rfl 1 (Nat.le_of_ble_eq_true rfl) (tl u998) rfl dX1_choose_132 ?_
        refine r_iconst (v := (1 : Int32)) S dX1_choose_135 rfl ?_
        refine r_isub S dX1_choose_136 ?_
        obtain ⟨v18, h_v18, hm⟩ := bS hm
        refine r_iald S h_v18 5 0 rfl rfl dX1_choose_137 ?_
        refine r_put (T := TX1) (ci := 1) S (tlA inlX1) tyX1 tyX1_ok nmX1 rfl 0 rfl 0 (Nat.le_of_ble_eq_true rfl) (tl u107) rfl rfl rfl (Nat.le_of_ble_eq_true rfl) (ws' := [(aT, .inr (1, [.int v18, .int (0 : Int32), .ref aT_totals, .ref aT_whole, .ref aT_open, .ref aT_nodesByLeast])), (aq1, .inr (2, [.ref aq1_points, .int q1_count, .ref aq1_keys, .ref aq1_aparts, .ref aq1_roots, .ref aq1_firsts, .ref aq1_seconds, .ref aq1_parts, .ref aq1_firstSides, .ref aq1_otherSides, .ref aq1_joinsAbove, .ref aq1_pointsAbove, .ref aq1_pairs, .ref aq1_links, .ref aq1_nodes])), (aq1_points, .inr (4, [.int q1_points_count, .ref aq1_points_xs, .ref aq1_points_ys, .ref aq1_points_ws])), (aT_nodesByLeast, .inl (cI, 24, .inl r1)), (aT_open, .inl (cZ, 24, .inl r4.1)), (aT_totals, .inl (cI, 24, .inl r4.2.1)), (aT_whole, .inl (cZ, 24, .inl r4.2.2)), (aq1_firstSides, .inl (cI, 24, .inl q1_firstSides)), (aq1_joinsAbove, .inl (cI, 24, .inl q1_joinsAbove)), (aq1_otherSides, .inl (cI, 24, .inl q1_otherSides)), (aq1_parts, .inl (cI, 24, .inl q1_parts)), (aq1_points_ws, .inl (cI, 24, .inl q1_points_ws)), (aq1_pointsAbove, .inl (cI, 24, .inl q1_pointsAbove)), (aq1_roots, .inl (cI, 24, .inl q1_roots))]) rfl dX1_choose_138 ?_
        refine r_aload_n S dX1_choose_141 rfl 0 rfl ?_
        refine r_aload_n S dX1_choose_142 rfl 1 rfl ?_
        obtain ⟨r19, h_r19, hm⟩ := bS hm
        refine r_callvV S (c_X1_chooseJoins l0 D0 cI cJ cZ cY F aT aq1 aT_totals aT_whole aT_open aT_nodesByLeast aq1_points aq1_keys aq1_aparts aq1_roots aq1_firsts aq1_seconds aq1_parts aq1_firstSides aq1_otherSides aq1_joinsAbove aq1_pointsAbove aq1_pairs aq1_links aq1_nodes v18 (0 : Int32) q1_count r1 r4.1 r4.2.2 q1_firstSides q1_otherSides q1_parts _ h_r19) (gV u1012 u1013 u1014 u37 u1015) ok_X1_chooseJoins ⟨rfl, rfl⟩ ⟨Nat.le_of_ble_eq_true rfl, Nat.le_of_ble_eq_true rfl⟩ [0, 1, 3, 4, 6, 7, 9, 10] [2, 5, 8, 11, 12, 13] rfl (wr := [(aq1_points, .inr (4, [.int q1_points_count, .ref aq1_points_xs, .ref aq1_points_ys, .ref aq1_points_ws])), (aT_totals, .inl (cI, 24, .inl r4.2.1)), (aq1_joinsAbove, .inl (cI, 24, .inl q1_joinsAbove)), (aq1_points_ws, .inl (cI, 24, .inl q1_points_ws)), (aq1_pointsAbove, .inl (cI, 24, .inl q1_pointsAbove)), (aq1_roots, .inl (cI, 24, .inl q1_roots))]) rfl rfl rfl (by decide) (ci := 1) (T := TX1) 0 rfl rfl (ws' := [(aq1_points, .inr (4, [.int q1_points_count, .ref aq1_points_xs, .ref aq1_points_ys, .ref aq1_points_ws])), (aT_totals, .inl (cI, 24, .inl r4.2.1)), (aq1_joinsAbove, .inl (cI, 24, .inl q1_joinsAbove)), (aq1_points_ws, .inl (cI, 24, .inl q1_points_ws)), (aq1_pointsAbove, .inl (cI, 24, .inl q1_pointsAbove)), (aq1_roots, .inl (cI, 24, .inl q1_roots)), (aT, .inr (1, [.int v18, .int r19.1, .ref aT_totals, .ref aT_whole, .ref aT_open, .ref aT_nodesByLeast])), (aq1, .inr (2, [.ref aq1_points, .int q1_count, .ref aq1_keys, .ref aq1_aparts, .ref aq1_roots, .ref aq1_firsts, .ref aq1_seconds, .ref aq1_parts, .ref aq1_firstSides, .ref aq1_otherSides, .ref aq1_joinsAbove, .ref aq1_pointsAbove, .ref aq1_pairs, .ref aq1_links, .ref aq1_nodes])), (aT_nodesByLeast, .inl (cI, 24, .inl r19.2.1)), (aT_open, .inl (cZ, 24, .inl r19.2.2)), (aT_whole, .inl (cZ, 24, .inl r4.2.2)), (aq1_firstSides, .inl (cI, 24, .inl q1_firstSides)), (aq1_otherSides, .inl (cI, 24, .inl q1_otherSides)), (aq1_parts, .inl (cI, 24, .inl q1_parts))]) rfl (As := [.ref aq1]) (rest := []) rfl rfl (Nat.le_of_ble_eq_true rfl) dX1_choose_143 ?_
        refine r_goto 165 S dX1_choose_146 (by decide) ?_
        refine r_perm [6, 7, 0, 8, 9, 1, 10, 11, 2, 12, 13, 3, 4, 5] (ws' := [(aT, .inr (1, [.int v18, .int r19.1, .ref aT_totals, .ref aT_whole, .ref aT_open, .ref aT_nodesByLeast])), (aq1, .inr (2, [.ref aq1_points, .int q1_count, .ref aq1_keys, .ref aq1_aparts, .ref aq1_roots, .ref aq1_firsts, .ref aq1_seconds, .ref aq1_parts, .ref aq1_firstSides, .ref aq1_otherSides, .ref aq1_joinsAbove, .ref aq1_pointsAbove, .ref aq1_pairs, .ref aq1_links, .ref aq1_nodes])), (aq1_points, .inr (4, [.int q1_points_count, .ref aq1_points_xs, .ref aq1_points_ys, .ref aq1_points_ws])), (aT_nodesByLeast, .inl (cI, 24, .inl r19.2.1)), (aT_open, .inl (cZ, 24, .inl r19.2.2)), (aT_totals, .inl (cI, 24, .inl r4.2.1)), (aT_whole, .inl (cZ, 24, .inl r4.2.2)), (aq1_firstSides, .inl (cI, 24, .inl q1_firstSides)), (aq1_joinsAbove, .inl (cI, 24, .inl q1_joinsAbove)), (aq1_otherSides, .inl (cI, 24, .inl q1_otherSides)), (aq1_parts, .inl (cI, 24, .inl q1_parts)), (aq1_points_ws, .inl (cI, 24, .inl q1_points_ws)), (aq1_pointsAbove, .inl (cI, 24, .inl q1_pointsAbove)), (aq1_roots, .inl (cI, 24, .inl q1_roots))]) rfl rfl ?_
        exact hR (r19.1, v18, r19.2.1, r19.2.2, r4.2.1, r4.2.2) _ _ hm dX1_choose_165
    refine r_lv [1, 2, 0] (lv' := [(0, .ref aT), (1, .ref aq1), (2, .int (0 : Int32))]) rfl ?_
    refine loopG (r0 := q4) (Gd := fun s9 => G X 38 [(0, .ref aT), (1, .ref aq1), (2, .int s9.1)] [] [(aT, .inr (1, [.int (0 : Int32), .int (0 : Int32), .ref aT_totals, .ref aT_whole, .ref aT_open, .ref aT_nodesByLeast])), (aq1, .inr (2, [.ref aq1_points, .int q1_count, .ref aq1_keys, .ref aq1_aparts, .ref aq1_roots, .ref aq1_firsts, .ref aq1_seconds, .ref aq1_parts, .ref aq1_firstSides, .ref aq1_otherSides, .ref aq1_joinsAbove, .ref aq1_pointsAbove, .ref aq1_pairs, .ref aq1_links, .ref aq1_nodes])), (aq1_points, .inr (4, [.int q1_points_count, .ref aq1_points_xs, .ref aq1_points_ys, .ref aq1_points_ws])), (aT_nodesByLeast, .inl (cI, 24, .inl r1)), (aT_open, .inl (cZ, 24, .inl s9.2.1)), (aT_totals, .inl (cI, 24, .inl s9.2.2.1)), (aT_whole, .inl (cZ, 24, .inl s9.2.2.2)), (aq1_firstSides, .inl (cI, 24, .inl q1_firstSides)), (aq1_joinsAbove, .inl (cI, 24, .inl q1_joinsAbove)), (aq1_otherSides, .inl (cI, 24, .inl q1_otherSides)), (aq1_parts, .inl (cI, 24, .inl q1_parts)), (aq1_points_ws, .inl (cI, 24, .inl q1_points_ws)), (aq1_pointsAbove, .inl (cI, 24, .inl q1_pointsAbove)), (aq1_roots, .inl (cI, 24, .inl q1_roots))]) ?_ _ _ hl38
    rintro ⟨x2_38, T_open_38, T_totals_38, T_whole_38⟩ b38 hm hk38 hr38
    replace hm : mX1_choose_b38 F q1_count q1_points_count q1_firstSides q1_joinsAbove q1_otherSides q1_parts q1_points_ws q1_pointsAbove q1_roots x2_38 T_open_38 T_totals_38 T_whole_38 = some b38 := hm
    unfold mX1_choose_b38 at hm
    show G X 38 [(0, .ref aT), (1, .ref aq1), (2, .int x2_38)] [] [(aT, .inr (1, [.int (0 : Int32), .int (0 : Int32), .ref aT_totals, .ref aT_whole, .ref aT_open, .ref aT_nodesByLeast])), (aq1, .inr (2, [.ref aq1_points, .int q1_count, .ref aq1_keys, .ref aq1_aparts, .ref aq1_roots, .ref aq1_firsts, .ref aq1_seconds, .ref aq1_parts, .ref aq1_firstSides, .ref aq1_otherSides, .ref aq1_joinsAbove, .ref aq1_pointsAbove, .ref aq1_pairs, .ref aq1_links, .ref aq1_nodes])), (aq1_points, .inr (4, [.int q1_points_count, .ref aq1_points_xs, .ref aq1_points_ys, .ref aq1_points_ws])), (aT_nodesByLeast, .inl (cI, 24, .inl r1)), (aT_open, .inl (cZ, 24, .inl T_open_38)), (aT_totals, .inl (cI, 24, .inl T_totals_38)), (aT_whole, .inl (cZ, 24, .inl T_whole_38)), (aq1_firstSides, .inl (cI, 24, .inl q1_firstSides)), (aq1_joinsAbove, .inl (cI, 24, .inl q1_joinsAbove)), (aq1_otherSides, .inl (cI, 24, .inl q1_otherSides)), (aq1_parts, .inl (cI, 24, .inl q1_parts)), (aq1_points_ws, .inl (cI, 24, .inl q1_points_ws)), (aq1_pointsAbove, .inl (cI, 24, .inl q1_pointsAbove)), (aq1_roots, .inl (cI, 24, .inl q1_roots))]
    refine r_iload_n S dX1_choose_38 rfl 2 rfl ?_
    refine r_aload_n S dX1_choose_39 rfl 1 rfl ?_
    refine r_get (T := TX2) (ci := 2) S (tlA inlX2) rfl 1 rfl 1 (Nat.le_of_ble_eq_true rfl) (tl u998) rfl dX1_choose_40 ?_
    refine r_icmp_ge 119 S dX1_choose_43 (by decide) (fun c5 => ?_) (fun c5 => ?_)
    · replace hm := iT c5 hm
      refine r_lv [0, 1] (lv' := [(0, .ref aT), (1, .ref aq1)]) rfl ?_
      exact hE38_119 (T_open_38, T_totals_38, T_whole_38) (hr38 _ (Option.some.inj hm).symm)
    · replace hm := iF c5 hm
      refine r_aload_n S dX1_choose_46 rfl 1 rfl ?_
      refine r_bipush (v := (100 : Int32)) S dX1_choose_47 rfl ?_
      refine r_iload_n S dX1_choose_49 rfl 2 rfl ?_
      refine r_iadd S dX1_choose_50 ?_
      obtain ⟨r6, h_r6, hm⟩ := bS hm
      refine r_calliV S (c_X2_lastsOf l0 D0 cI cJ cZ cY F aq1 aq1_points aq1_keys aq1_aparts aq1_roots aq1_firsts aq1_seconds aq1_parts aq1_firstSides aq1_otherSides aq1_joinsAbove aq1_pointsAbove aq1_pairs aq1_links aq1_nodes aq1_points_xs aq1_points_ys aq1_points_ws q1_count q1_points_count q1_joinsAbove q1_parts q1_points_ws q1_pointsAbove q1_roots ((100 : Int32) + x2_38) _ h_r6) (gV u1000 u504 u505 u14 u506) ok_X2_lastsOf ⟨rfl, rfl⟩ ⟨Nat.le_of_ble_eq_true rfl, Nat.le_of_ble_eq_true rfl⟩ [1, 2, 8, 10, 11, 12, 13] [0, 3, 4, 5, 6, 7, 9] rfl (wr := [(aT, .inr (1, [.int (0 : Int32), .int (0 : Int32), .ref aT_totals, .ref aT_whole, .ref aT_open, .ref aT_nodesByLeast])), (aT_nodesByLeast, .inl (cI, 24, .inl r1)), (aT_open, .inl (cZ, 24, .inl T_open_38)), (aT_totals, .inl (cI, 24, .inl T_totals_38)), (aT_whole, .inl (cZ, 24, .inl T_whole_38)), (aq1_firstSides, .inl (cI, 24, .inl q1_firstSides)), (aq1_otherSides, .inl (cI, 24, .inl q1_otherSides))]) rfl rfl rfl (by decide) (ci := 2) (T := TX2) 0 rfl rfl (ws' := [(aT, .inr (1, [.int (0 : Int32), .int (0 : Int32), .ref aT_totals, .ref aT_whole, .ref aT_open, .ref aT_nodesByLeast])), (aT_nodesByLeast, .inl (cI, 24, .inl r1)), (aT_open, .inl (cZ, 24, .inl T_open_38)), (aT_totals, .inl (cI, 24, .inl T_totals_38)), (aT_whole, .inl (cZ, 24, .inl T_whole_38)), (aq1_firstSides, .inl (cI, 24, .inl q1_firstSides)), (aq1_otherSides, .inl (cI, 24, .inl q1_otherSides)), (aq1, .inr (2, [.ref aq1_points, .int q1_count, .ref aq1_keys, .ref aq1_aparts, .ref aq1_roots, .ref aq1_firsts, .ref aq1_seconds, .ref aq1_parts, .ref aq1_firstSides, .ref aq1_otherSides, .ref aq1_joinsAbove, .ref aq1_pointsAbove, .ref aq1_pairs, .ref aq1_links, .ref aq1_nodes])), (aq1_points, .inr (4, [.int q1_points_count, .ref aq1_points_xs, .ref aq1_points_ys, .ref aq1_points_ws])), (aq1_joinsAbove, .inl (cI, 24, .inl q1_joinsAbove)), (aq1_parts, .inl (cI, 24, .inl q1_parts)), (aq1_points_ws, .inl (cI, 24, .inl q1_points_ws)), (aq1_pointsAbove, .inl (cI, 24, .inl q1_pointsAbove)), (aq1_roots, .inl (cI, 24, .inl q1_roots))]) rfl (As := [.int ((100 : Int32) + x2_38)]) (rest := []) rfl rfl (Nat.le_of_ble_eq_true rfl) dX1_choose_51 ?_
      refine r_istore_n S dX1_choose_54 rfl (Nat.le_of_ble_eq_true rfl) (lv' := [(3, .int r6), (0, .ref aT), (1, .ref aq1), (2, .int x2_38)]) rfl ?_
      refine r_aload_n S dX1_choose_55 rfl 1 rfl ?_
      refine r_aload_n S dX1_choose_56 rfl 2 rfl ?_
      refine r_iload_n S dX1_choose_57 rfl 3 rfl ?_
      obtain ⟨r7, h_r7, hm⟩ := bS hm
      refine r_calliV S (c_X1_sidesTotal l0 D0 cI cJ cZ cY F aT aq1 aT_totals aT_whole aT_open aT_nodesByLeast aq1_points aq1_keys aq1_aparts aq1_roots aq1_firsts aq1_seconds aq1_parts aq1_firstSides aq1_otherSides aq1_joinsAbove aq1_pointsAbove aq1_pairs aq1_links aq1_nodes aq1_points_xs aq1_points_ys aq1_points_ws (0 : Int32) (0 : Int32) q1_count q1_points_count T_totals_38 q1_firstSides q1_joinsAbove q1_otherSides q1_parts q1_points_ws q1_pointsAbove q1_roots x2_38 _ h_r7) (gV u1001 u1002 u1003 u37 u1004) ok_X1_sidesTotal ⟨rfl, rfl⟩ ⟨Nat.le_of_ble_eq_true rfl, Nat.le_of_ble_eq_true rfl⟩ [0, 7, 8, 3, 5, 9, 6, 10, 11, 12, 13] [1, 2, 4] rfl (wr := [(aT_nodesByLeast, .inl (cI, 24, .inl r1)), (aT_open, .inl (cZ, 24, .inl T_open_38)), (aT_whole, .inl (cZ, 24, .inl T_whole_38))]) rfl rfl rfl (by decide) (ci := 1) (T := TX1) 0 rfl rfl (ws' := [(aT_nodesByLeast, .inl (cI, 24, .inl r1)), (aT_open, .inl (cZ, 24, .inl T_open_38)), (aT_whole, .inl (cZ, 24, .inl T_whole_38)), (aT, .inr (1, [.int (0 : Int32), .int (0 : Int32), .ref aT_totals, .ref aT_whole, .ref aT_open, .ref aT_nodesByLeast])), (aq1, .inr (2, [.ref aq1_points, .int q1_count, .ref aq1_keys, .ref aq1_aparts, .ref aq1_roots, .ref aq1_firsts, .ref aq1_seconds, .ref aq1_parts, .ref aq1_firstSides, .ref aq1_otherSides, .ref aq1_joinsAbove, .ref aq1_pointsAbove, .ref aq1_pairs, .ref aq1_links, .ref aq1_nodes])), (aq1_points, .inr (4, [.int q1_points_count, .ref aq1_points_xs, .ref aq1_points_ys, .ref aq1_points_ws])), (aT_totals, .inl (cI, 24, .inl T_totals_38)), (aq1_firstSides, .inl (cI, 24, .inl q1_firstSides)), (aq1_joinsAbove, .inl (cI, 24, .inl q1_joinsAbove)), (aq1_otherSides, .inl (cI, 24, .inl q1_otherSides)), (aq1_parts, .inl (cI, 24, .inl q1_parts)), (aq1_points_ws, .inl (cI, 24, .inl q1_points_ws)), (aq1_pointsAbove, .inl (cI, 24, .inl q1_pointsAbove)), (aq1_roots, .inl (cI, 24, .inl q1_roots))]) rfl (As := [.ref aq1, .int x2_38]) (rest := []) rfl rfl (Nat.le_of_ble_eq_true rfl) dX1_choose_58 ?_
      refine r_istore S dX1_choose_61 (Nat.le_of_ble_eq_true rfl) (lv' := [(4, .int r7), (3, .int r6), (0, .ref aT), (1, .ref aq1), (2, .int x2_38)]) rfl ?_
      refine r_aload_n S dX1_choose_63 rfl 2 rfl ?_
      refine r_get (T := TX1) (ci := 1) S (tlA inlX1) rfl 3 rfl 2 (Nat.le_of_ble_eq_true rfl) (tl u109) rfl dX1_choose_64 ?_
      refine r_iload_n S dX1_choose_67 rfl 4 rfl ?_
      refine r_iload_n S dX1_choose_68 rfl 1 rfl ?_
      refine r_iload S dX1_choose_69 0 rfl ?_
      refine r_mmax S (tl u999) (tl u199) (tl u189) (tl u200) (Nat.le_of_ble_eq_true rfl) (Nat.le_of_ble_eq_true rfl) dX1_choose_71 ?_
      obtain ⟨v8, h_v8, hm⟩ := bS hm
      refine r_topI h_v8 ?_
      obtain ⟨g9, h_g9, hm⟩ := bS hm
      refine r_iast S h_g9 6 0 rfl rfl (ws' := [(aT_nodesByLeast, .inl (cI, 24, .inl r1)), (aT_open, .inl (cZ, 24, .inl T_open_38)), (aT_whole, .inl (cZ, 24, .inl T_whole_38)), (aT, .inr (1, [.int (0 : Int32), .int (0 : Int32), .ref aT_totals, .ref aT_whole, .ref aT_open, .ref aT_nodesByLeast])), (aq1, .inr (2, [.ref aq1_points, .int q1_count, .ref aq1_keys, .ref aq1_aparts, .ref aq1_roots, .ref aq1_firsts, .ref aq1_seconds, .ref aq1_parts, .ref aq1_firstSides, .ref aq1_otherSides, .ref aq1_joinsAbove, .ref aq1_pointsAbove, .ref aq1_pairs, .ref aq1_links, .ref aq1_nodes])), (aq1_points, .inr (4, [.int q1_points_count, .ref aq1_points_xs, .ref aq1_points_ys, .ref aq1_points_ws])), (aT_totals, .inl (cI, 24, .inl g9)), (aq1_firstSides, .inl (cI, 24, .inl q1_firstSides)), (aq1_joinsAbove, .inl (cI, 24, .inl q1_joinsAbove)), (aq1_otherSides, .inl (cI, 24, .inl q1_otherSides)), (aq1_parts, .inl (cI, 24, .inl q1_parts)), (aq1_points_ws, .inl (cI, 24, .inl q1_points_ws)), (aq1_pointsAbove, .inl (cI, 24, .inl q1_pointsAbove)), (aq1_roots, .inl (cI, 24, .inl q1_roots))]) rfl dX1_choose_74 ?_
      refine r_aload_n S dX1_choose_75 rfl 2 rfl ?_
      refine r_get (T := TX1) (ci := 1) S (tlA inlX1) rfl 3 rfl 3 (Nat.le_of_ble_eq_true rfl) (tl u111) rfl dX1_choose_76 ?_
      refine r_iload_n S dX1_choose_79 rfl 4 rfl ?_
      refine r_iload_n S dX1_choose_80 rfl 1 rfl ?_
      refine r_iload S dX1_choose_81 0 rfl ?_
      have hJ91 : ∀ (x2_91 : Int32) (y0_91 : Int32) (y1_91 : Int32) (T_open_91 : Nat → Int32) (T_totals_91 : Nat → Int32) (T_whole_91 : Nat → Int32), mX1_choose_j91 F q1_count x2_91 y0_91 y1_91 T_open_91 T_totals_91 T_whole_91 = some b38 → G X 91 [(0, .ref aT), (1, .ref aq1), (2, .int x2_91)] [.int y0_91, .int y1_91, .ref aT_whole] [(aT, .inr (1, [.int (0 : Int32), .int (0 : Int32), .ref aT_totals, .ref aT_whole, .ref aT_open, .ref aT_nodesByLeast])), (aq1, .inr (2, [.ref aq1_points, .int q1_count, .ref aq1_keys, .ref aq1_aparts, .ref aq1_roots, .ref aq1_firsts, .ref aq1_seconds, .ref aq1_parts, .ref aq1_firstSides, .ref aq1_otherSides, .ref aq1_joinsAbove, .ref aq1_pointsAbove, .ref aq1_pairs, .ref aq1_links, .ref aq1_nodes])), (aq1_points, .inr (4, [.int q1_points_count, .ref aq1_points_xs, .ref aq1_points_ys, .ref aq1_points_ws])), (aT_nodesByLeast, .inl (cI, 24, .inl r1)), (aT_open, .inl (cZ, 24, .inl T_open_91)), (aT_totals, .inl (cI, 24, .inl T_totals_91)), (aT_whole, .inl (cZ, 24, .inl T_whole_91)), (aq1_firstSides, .inl (cI, 24, .inl q1_firstSides)), (aq1_joinsAbove, .inl (cI, 24, .inl q1_joinsAbove)), (aq1_otherSides, .inl (cI, 24, .inl q1_otherSides)), (aq1_parts, .inl (cI, 24, .inl q1_parts)), (aq1_points_ws, .inl (cI, 24, .inl q1_points_ws)), (aq1_pointsAbove, .inl (cI, 24, .inl q1_pointsAbove)), (aq1_roots, .inl (cI, 24, .inl q1_roots))] := by
        intro x2_91 y0_91 y1_91 T_open_91 T_totals_91 T_whole_91 hm
        unfold mX1_choose_j91 at hm
        obtain ⟨g10, h_g10, hm⟩ := bS hm
        refine r_zast S h_g10 6 2 rfl rfl (ws' := [(aT, .inr (1, [.int (0 : Int32), .int (0 : Int32), .ref aT_totals, .ref aT_whole, .ref aT_open, .ref aT_nodesByLeast])), (aq1, .inr (2, [.ref aq1_points, .int q1_count, .ref aq1_keys, .ref aq1_aparts, .ref aq1_roots, .ref aq1_firsts, .ref aq1_seconds, .ref aq1_parts, .ref aq1_firstSides, .ref aq1_otherSides, .ref aq1_joinsAbove, .ref aq1_pointsAbove, .ref aq1_pairs, .ref aq1_links, .ref aq1_nodes])), (aq1_points, .inr (4, [.int q1_points_count, .ref aq1_points_xs, .ref aq1_points_ys, .ref aq1_points_ws])), (aT_nodesByLeast, .inl (cI, 24, .inl r1)), (aT_open, .inl (cZ, 24, .inl T_open_91)), (aT_totals, .inl (cI, 24, .inl T_totals_91)), (aT_whole, .inl (cZ, 24, .inl g10)), (aq1_firstSides, .inl (cI, 24, .inl q1_firstSides)), (aq1_joinsAbove, .inl (cI, 24, .inl q1_joinsAbove)), (aq1_otherSides, .inl (cI, 24, .inl q1_otherSides)), (aq1_parts, .inl (cI, 24, .inl q1_parts)), (aq1_points_ws, .inl (cI, 24, .inl q1_points_ws)), (aq1_pointsAbove, .inl (cI, 24, .inl q1_pointsAbove)), (aq1_roots, .inl (cI, 24, .inl q1_roots))]) rfl dX1_choose_91 ?_
        refine r_aload_n S dX1_choose_92 rfl 0 rfl ?_
        refine r_get (T := TX1) (ci := 1) S (tlA inlX1) rfl 0 rfl 4 (Nat.le_of_ble_eq_true rfl) (tl u112) rfl dX1_choose_93 ?_
        refine r_iload_n S dX1_choose_96 rfl 2 rfl ?_
        refine r_iload_n S dX1_choose_97 rfl 2 rfl ?_
        refine r_aload_n S dX1_choose_98 rfl 1 rfl ?_
        refine r_get (T := TX2) (ci := 2) S (tlA inlX2) rfl 1 rfl 1 (Nat.le_of_ble_eq_true rfl) (tl u998) rfl dX1_choose_99 ?_
        refine r_iconst (v := (1 : Int32)) S dX1_choose_102 rfl ?_
        refine r_isub S dX1_choose_103 ?_
        refine r_icmp_ne 111 S dX1_choose_104 (by decide) (fun c11 => ?_) (fun c11 => ?_)
        · replace hm := iF c11 hm
          refine r_iconst (v := (0 : Int32)) S dX1_choose_111 rfl ?_
          obtain ⟨g12, h_g12, hm⟩ := bS hm
          refine r_zast S h_g12 4 2 rfl rfl (ws' := [(aT, .inr (1, [.int (0 : Int32), .int (0 : Int32), .ref aT_totals, .ref aT_whole, .ref aT_open, .ref aT_nodesByLeast])), (aq1, .inr (2, [.ref aq1_points, .int q1_count, .ref aq1_keys, .ref aq1_aparts, .ref aq1_roots, .ref aq1_firsts, .ref aq1_seconds, .ref aq1_parts, .ref aq1_firstSides, .ref aq1_otherSides, .ref aq1_joinsAbove, .ref aq1_pointsAbove, .ref aq1_pairs, .ref aq1_links, .ref aq1_nodes])), (aq1_points, .inr (4, [.int q1_points_count, .ref aq1_points_xs, .ref aq1_points_ys, .ref aq1_points_ws])), (aT_nodesByLeast, .inl (cI, 24, .inl r1)), (aT_open, .inl (cZ, 24, .inl g12)), (aT_totals, .inl (cI, 24, .inl T_totals_91)), (aT_whole, .inl (cZ, 24, .inl g10)), (aq1_firstSides, .inl (cI, 24, .inl q1_firstSides)), (aq1_joinsAbove, .inl (cI, 24, .inl q1_joinsAbove)), (aq1_otherSides, .inl (cI, 24, .inl q1_otherSides)), (aq1_parts, .inl (cI, 24, .inl q1_parts)), (aq1_points_ws, .inl (cI, 24, .inl q1_points_ws)), (aq1_pointsAbove, .inl (cI, 24, .inl q1_pointsAbove)), (aq1_roots, .inl (cI, 24, .inl q1_roots))]) rfl dX1_choose_112 ?_
          refine r_iincc S dX1_choose_113 2 rfl (c0 := (1 : Int32)) rfl rfl (Nat.le_of_ble_eq_true rfl) (lv' := [(2, .int (x2_91 + (1 : Int32))), (0, .ref aT), (1, .ref aq1)]) rfl ?_
          refine r_goto 38 S dX1_choose_116 (by decide) ?_
          refine r_lv [1, 2, 0] (lv' := [(0, .ref aT), (1, .ref aq1), (2, .int (x2_91 + (1 : Int32)))]) rfl ?_
          exact hk38 ((x2_91 + (1 : Int32)), g12, T_totals_91, g10) (Option.some.inj hm).symm
        · replace hm := iT c11 hm
          refine r_iconst (v := (1 : Int32)) S dX1_choose_107 rfl ?_
          refine r_goto 112 S dX1_choose_108 (by decide) ?_
          obtain ⟨g13, h_g13, hm⟩ := bS hm
          refine r_zast S h_g13 4 2 rfl rfl (ws' := [(aT, .inr (1, [.int (0 : Int32), .int (0 : Int32), .ref aT_totals, .ref aT_whole, .ref aT_open, .ref aT_nodesByLeast])), (aq1, .inr (2, [.ref aq1_points, .int q1_count, .ref aq1_keys, .ref aq1_aparts, .ref aq1_roots, .ref aq1_firsts, .ref aq1_seconds, .ref aq1_parts, .ref aq1_firstSides, .ref aq1_otherSides, .ref aq1_joinsAbove, .ref aq1_pointsAbove, .ref aq1_pairs, .ref aq1_links, .ref aq1_nodes])), (aq1_points, .inr (4, [.int q1_points_count, .ref aq1_points_xs, .ref aq1_points_ys, .ref aq1_points_ws])), (aT_nodesByLeast, .inl (cI, 24, .inl r1)), (aT_open, .inl (cZ, 24, .inl g13)), (aT_totals, .inl (cI, 24, .inl T_totals_91)), (aT_whole, .inl (cZ, 24, .inl g10)), (aq1_firstSides, .inl (cI, 24, .inl q1_firstSides)), (aq1_joinsAbove, .inl (cI, 24, .inl q1_joinsAbove)), (aq1_otherSides, .inl (cI, 24, .inl q1_otherSides)), (aq1_parts, .inl (cI, 24, .inl q1_parts)), (aq1_points_ws, .inl (cI, 24, .inl q1_points_ws)), (aq1_pointsAbove, .inl (cI, 24, .inl q1_pointsAbove)), (aq1_roots, .inl (cI, 24, .inl q1_roots))]) rfl dX1_choose_112 ?_
          refine r_iincc S dX1_choose_113 2 rfl (c0 := (1 : Int32)) rfl rfl (Nat.le_of_ble_eq_true rfl) (lv' := [(2, .int (x2_91 + (1 : Int32))), (0, .ref aT), (1, .ref aq1)]) rfl ?_
          refine r_goto 38 S dX1_choose_116 (by decide) ?_
          refine r_lv [1, 2, 0] (lv' := [(0, .ref aT), (1, .ref aq1), (2, .int (x2_91 + (1 : Int32)))]) rfl ?_
          exact hk38 ((x2_91 + (1 : Int32)), g13, T_totals_91, g10) (Option.some.inj hm).symm
      refine r_icmp_lt 90 S dX1_choose_83 (by decide) (fun c14 => ?_) (fun c14 => ?_)
      · replace hm := iT c14 hm
        refine r_iconst (v := (0 : Int32)) S dX1_choose_90 rfl ?_
        refine r_perm [3, 4, 5, 0, 1, 6, 2, 7, 8, 9, 10, 11, 12, 13] (ws' := [(aT, .inr (1, [.int (0 : Int32), .int (0 : Int32), .ref aT_totals, .ref aT_whole, .ref aT_open, .ref aT_nodesByLeast])), (aq1, .inr (2, [.ref aq1_points, .int q1_count, .ref aq1_keys, .ref aq1_aparts, .ref aq1_roots, .ref aq1_firsts, .ref aq1_seconds, .ref aq1_parts, .ref aq1_firstSides, .ref aq1_otherSides, .ref aq1_joinsAbove, .ref aq1_pointsAbove, .ref aq1_pairs, .ref aq1_links, .ref aq1_nodes])), (aq1_points, .inr (4, [.int q1_points_count, .ref aq1_points_xs, .ref aq1_points_ys, .ref aq1_points_ws])), (aT_nodesByLeast, .inl (cI, 24, .inl r1)), (aT_open, .inl (cZ, 24, .inl T_open_38)), (aT_totals, .inl (cI, 24, .inl g9)), (aT_whole, .inl (cZ, 24, .inl T_whole_38)), (aq1_firstSides, .inl (cI, 24, .inl q1_firstSides)), (aq1_joinsAbove, .inl (cI, 24, .inl q1_joinsAbove)), (aq1_otherSides, .inl (cI, 24, .inl q1_otherSides)), (aq1_parts, .inl (cI, 24, .inl q1_parts)), (aq1_points_ws, .inl (cI, 24, .inl q1_points_ws)), (aq1_pointsAbove, .inl (cI, 24, .inl q1_pointsAbove)), (aq1_roots, .inl (cI, 24, .inl q1_roots))]) rfl rfl ?_
        refine r_lv [2, 3, 4] (lv' := [(0, .ref aT), (1, .ref aq1), (2, .int x2_38)]) rfl ?_
        exact hJ91 x2_38 (0 : Int32) x2_38 T_open_38 g9 T_whole_38 hm
      · replace hm := iF c14 hm
        refine r_iconst (v := (1 : Int32)) S dX1_choose_86 rfl ?_
        refine r_goto 91 S dX1_choose_87 (by decide) ?_
        refine r_perm [3, 4, 5, 0, 1, 6, 2, 7, 8, 9, 10, 11, 12, 13] (ws' := [(aT, .inr (1, [.int (0 : Int32), .int (0 : Int32), .ref aT_totals, .ref aT_whole, .ref aT_open, .ref aT_nodesByLeast])), (aq1, .inr (2, [.ref aq1_points, .int q1_count, .ref aq1_keys, .ref aq1_aparts, .ref aq1_roots, .ref aq1_firsts, .ref aq1_seconds, .ref aq1_parts, .ref aq1_firstSides, .ref aq1_otherSides, .ref aq1_joinsAbove, .ref aq1_pointsAbove, .ref aq1_pairs, .ref aq1_links, .ref aq1_nodes])), (aq1_points, .inr (4, [.int q1_points_count, .ref aq1_points_xs, .ref aq1_points_ys, .ref aq1_points_ws])), (aT_nodesByLeast, .inl (cI, 24, .inl r1)), (aT_open, .inl (cZ, 24, .inl T_open_38)), (aT_totals, .inl (cI, 24, .inl g9)), (aT_whole, .inl (cZ, 24, .inl T_whole_38)), (aq1_firstSides, .inl (cI, 24, .inl q1_firstSides)), (aq1_joinsAbove, .inl (cI, 24, .inl q1_joinsAbove)), (aq1_otherSides, .inl (cI, 24, .inl q1_otherSides)), (aq1_parts, .inl (cI, 24, .inl q1_parts)), (aq1_points_ws, .inl (cI, 24, .inl q1_points_ws)), (aq1_pointsAbove, .inl (cI, 24, .inl q1_pointsAbove)), (aq1_roots, .inl (cI, 24, .inl q1_roots))]) rfl rfl ?_
        refine r_lv [2, 3, 4] (lv' := [(0, .ref aT), (1, .ref aq1), (2, .int x2_38)]) rfl ?_
        exact hJ91 x2_38 (1 : Int32) x2_38 T_open_38 g9 T_whole_38 hm
  refine r_lv [1, 2, 0] (lv' := [(0, .ref aT), (1, .ref aq1), (2, .int (0 : Int32))]) rfl ?_
  refine loopG (r0 := q1) (Gd := fun s9 => G X 12 [(0, .ref aT), (1, .ref aq1), (2, .int s9.1)] [] [(aT, .inr (1, [.int (0 : Int32), .int (0 : Int32), .ref aT_totals, .ref aT_whole, .ref aT_open, .ref aT_nodesByLeast])), (aq1, .inr (2, [.ref aq1_points, .int q1_count, .ref aq1_keys, .ref aq1_aparts, .ref aq1_roots, .ref aq1_firsts, .ref aq1_seconds, .ref aq1_parts, .ref aq1_firstSides, .ref aq1_otherSides, .ref aq1_joinsAbove, .ref aq1_pointsAbove, .ref aq1_pairs, .ref aq1_links, .ref aq1_nodes])), (aq1_points, .inr (4, [.int q1_points_count, .ref aq1_points_xs, .ref aq1_points_ys, .ref aq1_points_ws])), (aT_nodesByLeast, .inl (cI, 24, .inl s9.2)), (aT_open, .inl (cZ, 24, .inl T_open)), (aT_totals, .inl (cI, 24, .inl T_totals)), (aT_whole, .inl (cZ, 24, .inl T_whole)), (aq1_firstSides, .inl (cI, 24, .inl q1_firstSides)), (aq1_joinsAbove, .inl (cI, 24, .inl q1_joinsAbove)), (aq1_otherSides, .inl (cI, 24, .inl q1_otherSides)), (aq1_parts, .inl (cI, 24, .inl q1_parts)), (aq1_points_ws, .inl (cI, 24, .inl q1_points_ws)), (aq1_pointsAbove, .inl (cI, 24, .inl q1_pointsAbove)), (aq1_roots, .inl (cI, 24, .inl q1_roots))]) ?_ _ _ hl12
  rintro ⟨x2_12, T_nodesByLeast_12⟩ b12 hm hk12 hr12
  replace hm : mX1_choose_b12 F q1_points_count x2_12 T_nodesByLeast_12 = some b12 := hm
  unfold mX1_choose_b12 at hm
  show G X 12 [(0, .ref aT), (1, .ref aq1), (2, .int x2_12)] [] [(aT, .inr (1, [.int (0 : Int32), .int (0 : Int32), .ref aT_totals, .ref aT_whole, .ref aT_open, .ref aT_nodesByLeast])), (aq1, .inr (2, [.ref aq1_points, .int q1_count, .ref aq1_keys, .ref aq1_aparts, .ref aq1_roots, .ref aq1_firsts, .ref aq1_seconds, .ref aq1_parts, .ref aq1_firstSides, .ref aq1_otherSides, .ref aq1_joinsAbove, .ref aq1_pointsAbove, .ref aq1_pairs, .ref aq1_links, .ref aq1_nodes])), (aq1_points, .inr (4, [.int q1_points_count, .ref aq1_points_xs, .ref aq1_points_ys, .ref aq1_points_ws])), (aT_nodesByLeast, .inl (cI, 24, .inl T_nodesByLeast_12)), (aT_open, .inl (cZ, 24, .inl T_open)), (aT_totals, .inl (cI, 24, .inl T_totals)), (aT_whole, .inl (cZ, 24, .inl T_whole)), (aq1_firstSides, .inl (cI, 24, .inl q1_firstSides)), (aq1_joinsAbove, .inl (cI, 24, .inl q1_joinsAbove)), (aq1_otherSides, .inl (cI, 24, .inl q1_otherSides)), (aq1_parts, .inl (cI, 24, .inl q1_parts)), (aq1_points_ws, .inl (cI, 24, .inl q1_points_ws)), (aq1_pointsAbove, .inl (cI, 24, .inl q1_pointsAbove)), (aq1_roots, .inl (cI, 24, .inl q1_roots))]
  refine r_iload_n S dX1_choose_12 rfl 2 rfl ?_
  refine r_aload_n S dX1_choose_13 rfl 1 rfl ?_
  refine r_get (T := TX2) (ci := 2) S (tlA inlX2) rfl 1 rfl 0 (Nat.le_of_ble_eq_true rfl) (tl u996) rfl dX1_choose_14 ?_
  refine r_get (T := TX4) (ci := 4) S (tlA inlX4) rfl 2 rfl 0 (Nat.le_of_ble_eq_true rfl) (tl u997) rfl dX1_choose_17 ?_
  refine r_icmp_ge 36 S dX1_choose_20 (by decide) (fun c2 => ?_) (fun c2 => ?_)
  · replace hm := iT c2 hm
    refine r_lv [0, 1] (lv' := [(0, .ref aT), (1, .ref aq1)]) rfl ?_
    exact hE12_36 T_nodesByLeast_12 (hr12 _ (Option.some.inj hm).symm)
  · replace hm := iF c2 hm
    refine r_aload_n S dX1_choose_23 rfl 0 rfl ?_
    refine r_get (T := TX1) (ci := 1) S (tlA inlX1) rfl 0 rfl 5 (Nat.le_of_ble_eq_true rfl) (tl u113) rfl dX1_choose_24 ?_
    refine r_iload_n S dX1_choose_27 rfl 2 rfl ?_
    refine r_iconst (v := (-1 : Int32)) S dX1_choose_28 rfl ?_
    obtain ⟨g3, h_g3, hm⟩ := bS hm
    refine r_iast S h_g3 3 0 rfl rfl (ws' := [(aT, .inr (1, [.int (0 : Int32), .int (0 : Int32), .ref aT_totals, .ref aT_whole, .ref aT_open, .ref aT_nodesByLeast])), (aq1, .inr (2, [.ref aq1_points, .int q1_count, .ref aq1_keys, .ref aq1_aparts, .ref aq1_roots, .ref aq1_firsts, .ref aq1_seconds, .ref aq1_parts, .ref aq1_firstSides, .ref aq1_otherSides, .ref aq1_joinsAbove, .ref aq1_pointsAbove, .ref aq1_pairs, .ref aq1_links, .ref aq1_nodes])), (aq1_points, .inr (4, [.int q1_points_count, .ref aq1_points_xs, .ref aq1_points_ys, .ref aq1_points_ws])), (aT_nodesByLeast, .inl (cI, 24, .inl g3)), (aT_open, .inl (cZ, 24, .inl T_open)), (aT_totals, .inl (cI, 24, .inl T_totals)), (aT_whole, .inl (cZ, 24, .inl T_whole)), (aq1_firstSides, .inl (cI, 24, .inl q1_firstSides)), (aq1_joinsAbove, .inl (cI, 24, .inl q1_joinsAbove)), (aq1_otherSides, .inl (cI, 24, .inl q1_otherSides)), (aq1_parts, .inl (cI, 24, .inl q1_parts)), (aq1_points_ws, .inl (cI, 24, .inl q1_points_ws)), (aq1_pointsAbove, .inl (cI, 24, .inl q1_pointsAbove)), (aq1_roots, .inl (cI, 24, .inl q1_roots))]) rfl dX1_choose_29 ?_
    refine r_iincc S dX1_choose_30 2 rfl (c0 := (1 : Int32)) rfl rfl (Nat.le_of_ble_eq_true rfl) (lv' := [(2, .int (x2_12 + (1 : Int32))), (0, .ref aT), (1, .ref aq1)]) rfl ?_
    refine r_goto 12 S dX1_choose_33 (by decide) ?_
    refine r_lv [1, 2, 0] (lv' := [(0, .ref aT), (1, .ref aq1), (2, .int (x2_12 + (1 : Int32)))]) rfl ?_
    exact hk12 ((x2_12 + (1 : Int32)), g3) (Option.some.inj hm).symm
def wtX1_nth : List Cond := Cond.code yX1_nth cX1_nth 5 (some .int) :: wsL_law
theorem ok_X1_nth : CallOK yX1_nth wtX1_nth RX1 2 5 := ⟨⟨_, _, _, rfl⟩, rfl, ⟨by decide +kernel, by decide +kernel⟩, by decide +kernel⟩
set_option maxRecDepth 100000 in
set_option maxHeartbeats 4000000 in
theorem c_X1_nth (l0 : Launch) (D0 : va_G) (cI cJ cZ cY : ClassId) (F : Nat) (aT aT_totals aT_whole aT_open aT_nodesByLeast : Nat) (T_total : Int32) (T_count : Int32) (T_nodesByLeast : Nat → Int32) (x1 : Int32) (x2 : Int32) (res : Int32) (hm : mX1_nth F x1 x2 T_nodesByLeast = some res) : Ci D0 [(cI, .int), (cJ, .long), (cZ, .boolean), (cY, .array .int)] l0 yX1_nth wtX1_nth ({ frames := 0, cells := 0, slots := 0, locals := 0 }) [.ref aT, .int x1, .int x2] (res) [(aT, .inr (1, [.int T_total, .int T_count, .ref aT_totals, .ref aT_whole, .ref aT_open, .ref aT_nodesByLeast])), (aT_nodesByLeast, .inl (cI, 24, .inl T_nodesByLeast))] [(aT, .inr (1, [.int T_total, .int T_count, .ref aT_totals, .ref aT_whole, .ref aT_open, .ref aT_nodesByLeast])), (aT_nodesByLeast, .inl (cI, 24, .inl T_nodesByLeast))] := by
  refine Ci.ofi cX1_nth 5 (own := RX1) (by decide +kernel) rfl rfl (Nat.le_of_ble_eq_true rfl) ?_
  intro X S hR0
  have hR : ∀ (r9 : Int32) (pc : Nat) (lv : List (Nat × Value)), some r9 = some res → decode cX1_nth pc = .ok (.ireturn, 1) → G X pc lv [.int (r9)] [(aT, .inr (1, [.int T_total, .int T_count, .ref aT_totals, .ref aT_whole, .ref aT_open, .ref aT_nodesByLeast])), (aT_nodesByLeast, .inl (cI, 24, .inl T_nodesByLeast))] := fun r9 pc lv h9 hd => by cases h9; exact hR0 pc lv hd
  show G X 0 [(0, .ref aT), (1, .int x1), (2, .int x2)] [] [(aT, .inr (1, [.int T_total, .int T_count, .ref aT_totals, .ref aT_whole, .ref aT_open, .ref aT_nodesByLeast])), (aT_nodesByLeast, .inl (cI, 24, .inl T_nodesByLeast))]
  unfold mX1_nth at hm
  refine r_iconst (v := (0 : Int32)) S dX1_nth_0 rfl ?_
  refine r_istore_n S dX1_nth_1 rfl (Nat.le_of_ble_eq_true rfl) (lv' := [(3, .int (0 : Int32)), (0, .ref aT), (1, .int x1), (2, .int x2)]) rfl ?_
  refine r_iconst (v := (0 : Int32)) S dX1_nth_2 rfl ?_
  refine r_istore S dX1_nth_3 (Nat.le_of_ble_eq_true rfl) (lv' := [(4, .int (0 : Int32)), (3, .int (0 : Int32)), (0, .ref aT), (1, .int x1), (2, .int x2)]) rfl ?_
  have hR5 : ∀ (r9 : Int32) (pc : Nat) (lv : List (Nat × Value)), r9 = res → decode cX1_nth pc = .ok (.ireturn, 1) → G X pc lv [.int (r9)] [(aT, .inr (1, [.int T_total, .int T_count, .ref aT_totals, .ref aT_whole, .ref aT_open, .ref aT_nodesByLeast])), (aT_nodesByLeast, .inl (cI, 24, .inl T_nodesByLeast))] := fun r9 pc lv h9 hd => hR r9 pc lv (congrArg some h9) hd
  refine r_lv [2, 3, 4, 1, 0] (lv' := [(0, .ref aT), (1, .int x1), (2, .int x2), (3, .int (0 : Int32)), (4, .int (0 : Int32))]) rfl ?_
  refine loopG (r0 := res) (Gd := fun s9 => G X 5 [(0, .ref aT), (1, .int x1), (2, .int x2), (3, .int s9.1), (4, .int s9.2)] [] [(aT, .inr (1, [.int T_total, .int T_count, .ref aT_totals, .ref aT_whole, .ref aT_open, .ref aT_nodesByLeast])), (aT_nodesByLeast, .inl (cI, 24, .inl T_nodesByLeast))]) ?_ _ _ hm
  rintro ⟨x3_5, x4_5⟩ b5 hm hk5 hr5
  replace hm : mX1_nth_b5 F x1 x2 T_nodesByLeast x3_5 x4_5 = some b5 := hm
  unfold mX1_nth_b5 at hm
  show G X 5 [(0, .ref aT), (1, .int x1), (2, .int x2), (3, .int x3_5), (4, .int x4_5)] [] [(aT, .inr (1, [.int T_total, .int T_count, .ref aT_totals, .ref aT_whole, .ref aT_open, .ref aT_nodesByLeast])), (aT_nodesByLeast, .inl (cI, 24, .inl T_nodesByLeast))]
  refine r_iload S dX1_nth_5 4 rfl ?_
  refine r_iload_n S dX1_nth_7 rfl 2 rfl ?_
  refine r_icmp_ge 44 S dX1_nth_8 (by decide) (fun c2 => ?_) (fun c2 => ?_)
  · replace hm := iT c2 hm
    refine r_iconst (v := (-1 : Int32)) S dX1_nth_44 rfl ?_
    exact hR5 (-1 : Int32) _ _ (hr5 _ (Option.some.inj hm).symm) dX1_nth_45
  · replace hm := iF c2 hm
    refine r_aload_n S dX1_nth_11 rfl 0 rfl ?_
    refine r_get (T := TX1) (ci := 1) S (tlA inlX1) rfl 0 rfl 5 (Nat.le_of_ble_eq_true rfl) (tl u113) rfl dX1_nth_12 ?_
    refine r_iload S dX1_nth_15 4 rfl ?_
    obtain ⟨v3, h_v3, hm⟩ := bS hm
    refine r_iald S h_v3 1 0 rfl rfl dX1_nth_17 ?_
    refine r_iconst (v := (-1 : Int32)) S dX1_nth_18 rfl ?_
    refine r_icmp_eq 38 S dX1_nth_19 (by decide) (fun c4 => ?_) (fun c4 => ?_)
    · replace hm := iT c4 hm
      refine r_iincc S dX1_nth_38 4 rfl (c0 := (1 : Int32)) rfl rfl (Nat.le_of_ble_eq_true rfl) (lv' := [(4, .int (x4_5 + (1 : Int32))), (0, .ref aT), (1, .int x1), (2, .int x2), (3, .int x3_5)]) rfl ?_
      refine r_goto 5 S dX1_nth_41 (by decide) ?_
      refine r_lv [1, 2, 3, 4, 0] (lv' := [(0, .ref aT), (1, .int x1), (2, .int x2), (3, .int x3_5), (4, .int (x4_5 + (1 : Int32)))]) rfl ?_
      exact hk5 (x3_5, (x4_5 + (1 : Int32))) (Option.some.inj hm).symm
    · replace hm := iF c4 hm
      refine r_iload_n S dX1_nth_22 rfl 3 rfl ?_
      refine r_iload_n S dX1_nth_23 rfl 1 rfl ?_
      refine r_icmp_ne 35 S dX1_nth_24 (by decide) (fun c5 => ?_) (fun c5 => ?_)
      · replace hm := iF c5 hm
        obtain ⟨v6, h_v6, hm⟩ := bS hm
        refine r_iincc S dX1_nth_35 3 rfl (c0 := (1 : Int32)) rfl (Option.some.inj h_v6) (Nat.le_of_ble_eq_true rfl) (lv' := [(3, .int v6), (0, .ref aT), (1, .int x1), (2, .int x2), (4, .int x4_5)]) rfl ?_
        refine r_iincc S dX1_nth_38 4 rfl (c0 := (1 : Int32)) rfl rfl (Nat.le_of_ble_eq_true rfl) (lv' := [(4, .int (x4_5 + (1 : Int32))), (3, .int v6), (0, .ref aT), (1, .int x1), (2, .int x2)]) rfl ?_
        refine r_goto 5 S dX1_nth_41 (by decide) ?_
        refine r_lv [2, 3, 4, 1, 0] (lv' := [(0, .ref aT), (1, .int x1), (2, .int x2), (3, .int v6), (4, .int (x4_5 + (1 : Int32)))]) rfl ?_
        exact hk5 (v6, (x4_5 + (1 : Int32))) (Option.some.inj hm).symm
      · replace hm := iT c5 hm
        refine r_aload_n S dX1_nth_27 rfl 0 rfl ?_
        refine r_get (T := TX1) (ci := 1) S (tlA inlX1) rfl 0 rfl 5 (Nat.le_of_ble_eq_true rfl) (tl u113) rfl dX1_nth_28 ?_
        refine r_iload S dX1_nth_31 4 rfl ?_
        obtain ⟨v7, h_v7, hm⟩ := bS hm
        refine r_iald S h_v7 1 0 rfl rfl dX1_nth_33 ?_
        exact hR5 v7 _ _ (hr5 _ (Option.some.inj hm).symm) dX1_nth_34
def wtX4_squares : List Cond := Cond.code yX4_squares cX4_squares 6 (some .int) :: wsL_law
theorem ok_X4_squares : CallOK yX4_squares wtX4_squares RX4 3 6 := ⟨⟨_, _, _, rfl⟩, rfl, ⟨by decide +kernel, by decide +kernel⟩, by decide +kernel⟩
set_option maxRecDepth 100000 in
set_option maxHeartbeats 4000000 in
theorem c_X4_squares (l0 : Launch) (D0 : va_G) (cI cJ cZ cY : ClassId) (F : Nat) (aT aT_xs aT_ys aT_ws : Nat) (T_count : Int32) (T_xs : Nat → Int32) (T_ys : Nat → Int32) (x1 : Int32) (x2 : Int32) (x3 : Int32) (res : Int32) (hm : mX4_squares F x1 x2 x3 T_xs T_ys = some res) : Ci D0 [(cI, .int), (cJ, .long), (cZ, .boolean), (cY, .array .int)] l0 yX4_squares wtX4_squares ({ frames := 0, cells := 0, slots := 0, locals := 0 }) [.ref aT, .int x1, .int x2, .int x3] (res) [(aT, .inr (4, [.int T_count, .ref aT_xs, .ref aT_ys, .ref aT_ws])), (aT_xs, .inl (cI, 24, .inl T_xs)), (aT_ys, .inl (cI, 24, .inl T_ys))] [(aT, .inr (4, [.int T_count, .ref aT_xs, .ref aT_ys, .ref aT_ws])), (aT_xs, .inl (cI, 24, .inl T_xs)), (aT_ys, .inl (cI, 24, .inl T_ys))] := by
  refine Ci.ofi cX4_squares 6 (own := RX4) (by decide +kernel) rfl rfl (Nat.le_of_ble_eq_true rfl) ?_
  intro X S hR0
  have hR : ∀ (r9 : Int32) (pc : Nat) (lv : List (Nat × Value)), some r9 = some res → decode cX4_squares pc = .ok (.ireturn, 1) → G X pc lv [.int (r9)] [(aT, .inr (4, [.int T_count, .ref aT_xs, .ref aT_ys, .ref aT_ws])), (aT_xs, .inl (cI, 24, .inl T_xs)), (aT_ys, .inl (cI, 24, .inl T_ys))] := fun r9 pc lv h9 hd => by cases h9; exact hR0 pc lv hd
  show G X 0 [(0, .ref aT), (1, .int x1), (2, .int x2), (3, .int x3)] [] [(aT, .inr (4, [.int T_count, .ref aT_xs, .ref aT_ys, .ref aT_ws])), (aT_xs, .inl (cI, 24, .inl T_xs)), (aT_ys, .inl (cI, 24, .inl T_ys))]
  unfold mX4_squares at hm
  refine r_aload_n S dX4_squares_0 rfl 0 rfl ?_
  refine r_get (T := TX4) (ci := 4) S (tlA inlX4) rfl 0 rfl 1 (Nat.le_of_ble_eq_true rfl) (tl u71) rfl dX4_squares_1 ?_
  refine r_iload_n S dX4_squares_4 rfl 1 rfl ?_
  obtain ⟨v1, h_v1, hm⟩ := bS hm
  refine r_iald S h_v1 1 0 rfl rfl dX4_squares_5 ?_
  refine r_iload_n S dX4_squares_6 rfl 2 rfl ?_
  refine r_isub S dX4_squares_7 ?_
  obtain ⟨v2, h_v2, hm⟩ := bS hm
  refine r_topI h_v2 ?_
  refine r_istore S dX4_squares_8 (Nat.le_of_ble_eq_true rfl) (lv' := [(4, .int v2), (0, .ref aT), (1, .int x1), (2, .int x2), (3, .int x3)]) rfl ?_
  refine r_aload_n S dX4_squares_10 rfl 1 rfl ?_
  refine r_get (T := TX4) (ci := 4) S (tlA inlX4) rfl 0 rfl 2 (Nat.le_of_ble_eq_true rfl) (tl u72) rfl dX4_squares_11 ?_
  refine r_iload_n S dX4_squares_14 rfl 2 rfl ?_
  obtain ⟨v3, h_v3, hm⟩ := bS hm
  refine r_iald S h_v3 2 0 rfl rfl dX4_squares_15 ?_
  refine r_iload_n S dX4_squares_16 rfl 4 rfl ?_
  refine r_isub S dX4_squares_17 ?_
  obtain ⟨v4, h_v4, hm⟩ := bS hm
  refine r_topI h_v4 ?_
  refine r_istore S dX4_squares_18 (Nat.le_of_ble_eq_true rfl) (lv' := [(5, .int v4), (4, .int v2), (0, .ref aT), (1, .int x1), (2, .int x2), (3, .int x3)]) rfl ?_
  refine r_iload S dX4_squares_20 1 rfl ?_
  refine r_iload S dX4_squares_22 1 rfl ?_
  refine r_imul S dX4_squares_24 ?_
  refine r_iload S dX4_squares_25 0 rfl ?_
  refine r_iload S dX4_squares_27 0 rfl ?_
  refine r_imul S dX4_squares_29 ?_
  refine r_iadd S dX4_squares_30 ?_
  exact hR ((v2 * v2) + (v4 * v4)) _ _ hm dX4_squares_31
def wtX4_apart : List Cond := Cond.code yX4_apart cX4_apart 3 (some .int) :: wsL_law
theorem ok_X4_apart : CallOK yX4_apart wtX4_apart RX4 2 3 := ⟨⟨_, _, _, rfl⟩, rfl, ⟨by decide +kernel, by decide +kernel⟩, by decide +kernel⟩
set_option maxRecDepth 100000 in
set_option maxHeartbeats 4000000 in
theorem c_X4_apart (l0 : Launch) (D0 : va_G) (cI cJ cZ cY : ClassId) (F : Nat) (aT aT_xs aT_ys aT_ws : Nat) (T_count : Int32) (T_xs : Nat → Int32) (T_ys : Nat → Int32) (x1 : Int32) (x2 : Int32) (res : Int32) (hm : mX4_apart F x1 x2 T_xs T_ys = some res) : Ci D0 [(cI, .int), (cJ, .long), (cZ, .boolean), (cY, .array .int)] l0 yX4_apart wtX4_apart ({ frames := 1, cells := 0, slots := 0, locals := 25 }) [.ref aT, .int x1, .int x2] (res) [(aT, .inr (4, [.int T_count, .ref aT_xs, .ref aT_ys, .ref aT_ws])), (aT_xs, .inl (cI, 24, .inl T_xs)), (aT_ys, .inl (cI, 24, .inl T_ys))] [(aT, .inr (4, [.int T_count, .ref aT_xs, .ref aT_ys, .ref aT_ws])), (aT_xs, .inl (cI, 24, .inl T_xs)), (aT_ys, .inl (cI, 24, .inl T_ys))] := by
  refine Ci.ofi cX4_apart 3 (own := RX4) (by decide +kernel) rfl rfl (Nat.le_of_ble_eq_true rfl) ?_
  intro X S hR0
  have hR : ∀ (r9 : Int32) (pc : Nat) (lv : List (Nat × Value)), some r9 = some res → decode cX4_apart pc = .ok (.ireturn, 1) → G X pc lv [.int (r9)] [(aT, .inr (4, [.int T_count, .ref aT_xs, .ref aT_ys, .ref aT_ws])), (aT_xs, .inl (cI, 24, .inl T_xs)), (aT_ys, .inl (cI, 24, .inl T_ys))] := fun r9 pc lv h9 hd => by cases h9; exact hR0 pc lv hd
  show G X 0 [(0, .ref aT), (1, .int x1), (2, .int x2)] [] [(aT, .inr (4, [.int T_count, .ref aT_xs, .ref aT_ys, .ref aT_ws])), (aT_xs, .inl (cI, 24, .inl T_xs)), (aT_ys, .inl (cI, 24, .inl T_ys))]
  unfold mX4_apart at hm
  refine r_aload_n S dX4_apart_0 rfl 0 rfl ?_
  refine r_iload_n S dX4_apart_1 rfl 1 rfl ?_
  refine r_aload_n S dX4_apart_2 rfl 0 rfl ?_
  refine r_get (T := TX4) (ci := 4) S (tlA inlX4) rfl 0 rfl 1 (Nat.le_of_ble_eq_true rfl) (tl u71) rfl dX4_apart_3 ?_
  refine r_iload_n S dX4_apart_6 rfl 2 rfl ?_
  obtain ⟨v1, h_v1, hm⟩ := bS hm
  refine r_iald S h_v1 1 0 rfl rfl dX4_apart_7 ?_
  refine r_aload_n S dX4_apart_8 rfl 0 rfl ?_
  refine r_get (T := TX4) (ci := 4) S (tlA inlX4) rfl 0 rfl 2 (Nat.le_of_ble_eq_true rfl) (tl u72) rfl dX4_apart_9 ?_
  refine r_iload_n S dX4_apart_12 rfl 2 rfl ?_
  obtain ⟨v2, h_v2, hm⟩ := bS hm
  refine r_iald S h_v2 2 0 rfl rfl dX4_apart_13 ?_
  obtain ⟨r3, h_r3, hm⟩ := bS hm
  refine r_calliV S (c_X4_squares l0 D0 cI cJ cZ cY F aT aT_xs aT_ys aT_ws T_count T_xs T_ys x1 v1 v2 _ h_r3) (gV u205 u206 u207 u49 u208) ok_X4_squares ⟨rfl, rfl⟩ ⟨Nat.le_of_ble_eq_true rfl, Nat.le_of_ble_eq_true rfl⟩ [0, 1, 2] [] rfl (wr := []) rfl rfl rfl (by decide) (ci := 4) (T := TX4) 0 rfl rfl (ws' := [(aT, .inr (4, [.int T_count, .ref aT_xs, .ref aT_ys, .ref aT_ws])), (aT_xs, .inl (cI, 24, .inl T_xs)), (aT_ys, .inl (cI, 24, .inl T_ys))]) rfl (As := [.int x1, .int v1, .int v2]) (rest := []) rfl rfl (Nat.le_of_ble_eq_true rfl) dX4_apart_14 ?_
  exact hR r3 _ _ hm dX4_apart_17
def wtX2_keyOf : List Cond := Cond.code yX2_keyOf cX2_keyOf 3 (some .long) :: wsL_law
theorem ok_X2_keyOf : CallOK yX2_keyOf wtX2_keyOf RX2 2 3 := ⟨⟨_, _, _, rfl⟩, rfl, ⟨by decide +kernel, by decide +kernel⟩, by decide +kernel⟩
set_option maxRecDepth 100000 in
set_option maxHeartbeats 4000000 in
theorem c_X2_keyOf (l0 : Launch) (D0 : va_G) (cI cJ cZ cY : ClassId) (F : Nat) (aT aT_points aT_keys aT_aparts aT_roots aT_firsts aT_seconds aT_parts aT_firstSides aT_otherSides aT_joinsAbove aT_pointsAbove aT_pairs aT_links aT_nodes aT_points_xs aT_points_ys aT_points_ws : Nat) (T_count : Int32) (T_points_count : Int32) (T_points_xs : Nat → Int32) (T_points_ys : Nat → Int32) (x1 : Int32) (x2 : Int32) (res : Int64) (hm : mX2_keyOf F x1 x2 T_points_xs T_points_ys = some res) : Cl D0 [(cI, .int), (cJ, .long), (cZ, .boolean), (cY, .array .int)] l0 yX2_keyOf wtX2_keyOf ({ frames := 2, cells := 0, slots := 0, locals := 47 }) [.ref aT, .int x1, .int x2] (res) [(aT, .inr (2, [.ref aT_points, .int T_count, .ref aT_keys, .ref aT_aparts, .ref aT_roots, .ref aT_firsts, .ref aT_seconds, .ref aT_parts, .ref aT_firstSides, .ref aT_otherSides, .ref aT_joinsAbove, .ref aT_pointsAbove, .ref aT_pairs, .ref aT_links, .ref aT_nodes])), (aT_points, .inr (4, [.int T_points_count, .ref aT_points_xs, .ref aT_points_ys, .ref aT_points_ws])), (aT_points_xs, .inl (cI, 24, .inl T_points_xs)), (aT_points_ys, .inl (cI, 24, .inl T_points_ys))] [(aT, .inr (2, [.ref aT_points, .int T_count, .ref aT_keys, .ref aT_aparts, .ref aT_roots, .ref aT_firsts, .ref aT_seconds, .ref aT_parts, .ref aT_firstSides, .ref aT_otherSides, .ref aT_joinsAbove, .ref aT_pointsAbove, .ref aT_pairs, .ref aT_links, .ref aT_nodes])), (aT_points, .inr (4, [.int T_points_count, .ref aT_points_xs, .ref aT_points_ys, .ref aT_points_ws])), (aT_points_xs, .inl (cI, 24, .inl T_points_xs)), (aT_points_ys, .inl (cI, 24, .inl T_points_ys))] := by
  refine Cl.ofl cX2_keyOf 3 (own := RX2) (by decide +kernel) rfl rfl (Nat.le_of_ble_eq_true rfl) ?_
  intro X S hR0
  have hR : ∀ (r9 : Int64) (pc : Nat) (lv : List (Nat × Value)), some r9 = some res → decode cX2_keyOf pc = .ok (.lreturn, 1) → G X pc lv [.long (r9)] [(aT, .inr (2, [.ref aT_points, .int T_count, .ref aT_keys, .ref aT_aparts, .ref aT_roots, .ref aT_firsts, .ref aT_seconds, .ref aT_parts, .ref aT_firstSides, .ref aT_otherSides, .ref aT_joinsAbove, .ref aT_pointsAbove, .ref aT_pairs, .ref aT_links, .ref aT_nodes])), (aT_points, .inr (4, [.int T_points_count, .ref aT_points_xs, .ref aT_points_ys, .ref aT_points_ws])), (aT_points_xs, .inl (cI, 24, .inl T_points_xs)), (aT_points_ys, .inl (cI, 24, .inl T_points_ys))] := fun r9 pc lv h9 hd => by cases h9; exact hR0 pc lv hd
  show G X 0 [(0, .ref aT), (1, .int x1), (2, .int x2)] [] [(aT, .inr (2, [.ref aT_points, .int T_count, .ref aT_keys, .ref aT_aparts, .ref aT_roots, .ref aT_firsts, .ref aT_seconds, .ref aT_parts, .ref aT_firstSides, .ref aT_otherSides, .ref aT_joinsAbove, .ref aT_pointsAbove, .ref aT_pairs, .ref aT_links, .ref aT_nodes])), (aT_points, .inr (4, [.int T_points_count, .ref aT_points_xs, .ref aT_points_ys, .ref aT_points_ws])), (aT_points_xs, .inl (cI, 24, .inl T_points_xs)), (aT_points_ys, .inl (cI, 24, .inl T_points_ys))]
  unfold mX2_keyOf at hm
  refine r_aload_n S dX2_keyOf_0 rfl 0 rfl ?_
  refine r_get (T := TX2) (ci := 2) S (tlA inlX2) rfl 0 rfl 0 (Nat.le_of_ble_eq_true rfl) (tl u50) rfl dX2_keyOf_1 ?_
  refine r_iload_n S dX2_keyOf_4 rfl 1 rfl ?_
  refine r_iload_n S dX2_keyOf_5 rfl 2 rfl ?_
  obtain ⟨r1, h_r1, hm⟩ := bS hm
  refine r_calliV S (c_X4_apart l0 D0 cI cJ cZ cY F aT_points aT_points_xs aT_points_ys aT_points_ws T_points_count T_points_xs T_points_ys x1 x2 _ h_r1) (gV u201 u202 u203 u49 u204) ok_X4_apart ⟨rfl, rfl⟩ ⟨Nat.le_of_ble_eq_true rfl, Nat.le_of_ble_eq_true rfl⟩ [1, 2, 3] [0] rfl (wr := [(aT, .inr (2, [.ref aT_points, .int T_count, .ref aT_keys, .ref aT_aparts, .ref aT_roots, .ref aT_firsts, .ref aT_seconds, .ref aT_parts, .ref aT_firstSides, .ref aT_otherSides, .ref aT_joinsAbove, .ref aT_pointsAbove, .ref aT_pairs, .ref aT_links, .ref aT_nodes]))]) rfl rfl rfl (by decide) (ci := 4) (T := TX4) 0 rfl rfl (ws' := [(aT, .inr (2, [.ref aT_points, .int T_count, .ref aT_keys, .ref aT_aparts, .ref aT_roots, .ref aT_firsts, .ref aT_seconds, .ref aT_parts, .ref aT_firstSides, .ref aT_otherSides, .ref aT_joinsAbove, .ref aT_pointsAbove, .ref aT_pairs, .ref aT_links, .ref aT_nodes])), (aT_points, .inr (4, [.int T_points_count, .ref aT_points_xs, .ref aT_points_ys, .ref aT_points_ws])), (aT_points_xs, .inl (cI, 24, .inl T_points_xs)), (aT_points_ys, .inl (cI, 24, .inl T_points_ys))]) rfl (As := [.int x1, .int x2]) (rest := []) rfl rfl (Nat.le_of_ble_eq_true rfl) dX2_keyOf_6 ?_
  refine r_i2l S dX2_keyOf_9 ?_
  refine r_bipush (v := (10 : Int32)) S dX2_keyOf_10 rfl ?_
  refine r_lshl S dX2_keyOf_12 ?_
  refine r_iload_n S dX2_keyOf_13 rfl 1 rfl ?_
  refine r_iload_n S dX2_keyOf_14 rfl 2 rfl ?_
  refine r_mmin S (tl u195) (tl u196) (tl u189) (tl u197) (Nat.le_of_ble_eq_true rfl) (Nat.le_of_ble_eq_true rfl) dX2_keyOf_15 ?_
  obtain ⟨v2, h_v2, hm⟩ := bS hm
  refine r_topI h_v2 ?_
  refine r_iconst (v := (5 : Int32)) S dX2_keyOf_18 rfl ?_
  refine r_ishl S dX2_keyOf_19 ?_
  refine r_i2l S dX2_keyOf_20 ?_
  refine r_lor S dX2_keyOf_21 ?_
  refine r_iload_n S dX2_keyOf_22 rfl 1 rfl ?_
  refine r_iload_n S dX2_keyOf_23 rfl 2 rfl ?_
  refine r_mmax S (tl u198) (tl u199) (tl u189) (tl u200) (Nat.le_of_ble_eq_true rfl) (Nat.le_of_ble_eq_true rfl) dX2_keyOf_24 ?_
  obtain ⟨v3, h_v3, hm⟩ := bS hm
  refine r_topI h_v3 ?_
  refine r_i2l S dX2_keyOf_27 ?_
  refine r_lor S dX2_keyOf_28 ?_
  exact hR ((((r1).toInt64 <<< (((10 : Int32)).toInt64 &&& 63)) ||| ((v2 <<< ((5 : Int32) &&& 31))).toInt64) ||| (v3).toInt64) _ _ hm dX2_keyOf_29
def wtX2_nextToGrow : List Cond := Cond.code yX2_nextToGrow cX2_nextToGrow 4 (some .int) :: wsL_law
theorem ok_X2_nextToGrow : CallOK yX2_nextToGrow wtX2_nextToGrow RX2 1 4 := ⟨⟨_, _, _, rfl⟩, rfl, ⟨by decide +kernel, by decide +kernel⟩, by decide +kernel⟩
set_option maxRecDepth 100000 in
set_option maxHeartbeats 4000000 in
theorem c_X2_nextToGrow (l0 : Launch) (D0 : va_G) (cI cJ cZ cY : ClassId) (F : Nat) (aT aT_points aT_keys aT_aparts aT_roots aT_firsts aT_seconds aT_parts aT_firstSides aT_otherSides aT_joinsAbove aT_pointsAbove aT_pairs aT_links aT_nodes aT_points_xs aT_points_ys aT_points_ws : Nat) (T_count : Int32) (T_points_count : Int32) (T_links : Nat → Int64) (x1 : Int32) (res : Int32) (hm : mX2_nextToGrow F x1 T_points_count T_links = some res) : Ci D0 [(cI, .int), (cJ, .long), (cZ, .boolean), (cY, .array .int)] l0 yX2_nextToGrow wtX2_nextToGrow ({ frames := 1, cells := 0, slots := 0, locals := 21 }) [.ref aT, .int x1] (res) [(aT, .inr (2, [.ref aT_points, .int T_count, .ref aT_keys, .ref aT_aparts, .ref aT_roots, .ref aT_firsts, .ref aT_seconds, .ref aT_parts, .ref aT_firstSides, .ref aT_otherSides, .ref aT_joinsAbove, .ref aT_pointsAbove, .ref aT_pairs, .ref aT_links, .ref aT_nodes])), (aT_points, .inr (4, [.int T_points_count, .ref aT_points_xs, .ref aT_points_ys, .ref aT_points_ws])), (aT_links, .inl (cJ, 24, .inr (.inl T_links)))] [(aT, .inr (2, [.ref aT_points, .int T_count, .ref aT_keys, .ref aT_aparts, .ref aT_roots, .ref aT_firsts, .ref aT_seconds, .ref aT_parts, .ref aT_firstSides, .ref aT_otherSides, .ref aT_joinsAbove, .ref aT_pointsAbove, .ref aT_pairs, .ref aT_links, .ref aT_nodes])), (aT_points, .inr (4, [.int T_points_count, .ref aT_points_xs, .ref aT_points_ys, .ref aT_points_ws])), (aT_links, .inl (cJ, 24, .inr (.inl T_links)))] := by
  refine Ci.ofi cX2_nextToGrow 4 (own := RX2) (by decide +kernel) rfl rfl (Nat.le_of_ble_eq_true rfl) ?_
  intro X S hR0
  have hR : ∀ (r9 : Int32) (pc : Nat) (lv : List (Nat × Value)), some r9 = some res → decode cX2_nextToGrow pc = .ok (.ireturn, 1) → G X pc lv [.int (r9)] [(aT, .inr (2, [.ref aT_points, .int T_count, .ref aT_keys, .ref aT_aparts, .ref aT_roots, .ref aT_firsts, .ref aT_seconds, .ref aT_parts, .ref aT_firstSides, .ref aT_otherSides, .ref aT_joinsAbove, .ref aT_pointsAbove, .ref aT_pairs, .ref aT_links, .ref aT_nodes])), (aT_points, .inr (4, [.int T_points_count, .ref aT_points_xs, .ref aT_points_ys, .ref aT_points_ws])), (aT_links, .inl (cJ, 24, .inr (.inl T_links)))] := fun r9 pc lv h9 hd => by cases h9; exact hR0 pc lv hd
  show G X 0 [(0, .ref aT), (1, .int x1)] [] [(aT, .inr (2, [.ref aT_points, .int T_count, .ref aT_keys, .ref aT_aparts, .ref aT_roots, .ref aT_firsts, .ref aT_seconds, .ref aT_parts, .ref aT_firstSides, .ref aT_otherSides, .ref aT_joinsAbove, .ref aT_pointsAbove, .ref aT_pairs, .ref aT_links, .ref aT_nodes])), (aT_points, .inr (4, [.int T_points_count, .ref aT_points_xs, .ref aT_points_ys, .ref aT_points_ws])), (aT_links, .inl (cJ, 24, .inr (.inl T_links)))]
  unfold mX2_nextToGrow at hm
  refine r_iconst (v := (-1 : Int32)) S dX2_nextToGrow_0 rfl ?_
  refine r_istore_n S dX2_nextToGrow_1 rfl (Nat.le_of_ble_eq_true rfl) (lv' := [(2, .int (-1 : Int32)), (0, .ref aT), (1, .int x1)]) rfl ?_
  refine r_iconst (v := (1 : Int32)) S dX2_nextToGrow_2 rfl ?_
  refine r_istore_n S dX2_nextToGrow_3 rfl (Nat.le_of_ble_eq_true rfl) (lv' := [(3, .int (1 : Int32)), (2, .int (-1 : Int32)), (0, .ref aT), (1, .int x1)]) rfl ?_
  have hR4 : ∀ (r9 : Int32) (pc : Nat) (lv : List (Nat × Value)), r9 = res → decode cX2_nextToGrow pc = .ok (.ireturn, 1) → G X pc lv [.int (r9)] [(aT, .inr (2, [.ref aT_points, .int T_count, .ref aT_keys, .ref aT_aparts, .ref aT_roots, .ref aT_firsts, .ref aT_seconds, .ref aT_parts, .ref aT_firstSides, .ref aT_otherSides, .ref aT_joinsAbove, .ref aT_pointsAbove, .ref aT_pairs, .ref aT_links, .ref aT_nodes])), (aT_points, .inr (4, [.int T_points_count, .ref aT_points_xs, .ref aT_points_ys, .ref aT_points_ws])), (aT_links, .inl (cJ, 24, .inr (.inl T_links)))] := fun r9 pc lv h9 hd => hR r9 pc lv (congrArg some h9) hd
  refine r_lv [2, 3, 1, 0] (lv' := [(0, .ref aT), (1, .int x1), (2, .int (-1 : Int32)), (3, .int (1 : Int32))]) rfl ?_
  refine loopG (r0 := res) (Gd := fun s9 => G X 4 [(0, .ref aT), (1, .int x1), (2, .int s9.1), (3, .int s9.2)] [] [(aT, .inr (2, [.ref aT_points, .int T_count, .ref aT_keys, .ref aT_aparts, .ref aT_roots, .ref aT_firsts, .ref aT_seconds, .ref aT_parts, .ref aT_firstSides, .ref aT_otherSides, .ref aT_joinsAbove, .ref aT_pointsAbove, .ref aT_pairs, .ref aT_links, .ref aT_nodes])), (aT_points, .inr (4, [.int T_points_count, .ref aT_points_xs, .ref aT_points_ys, .ref aT_points_ws])), (aT_links, .inl (cJ, 24, .inr (.inl T_links)))]) ?_ _ _ hm
  rintro ⟨x2_4, x3_4⟩ b4 hm hk4 hr4
  replace hm : mX2_nextToGrow_b4 F x1 T_points_count T_links x2_4 x3_4 = some b4 := hm
  unfold mX2_nextToGrow_b4 at hm
  show G X 4 [(0, .ref aT), (1, .int x1), (2, .int x2_4), (3, .int x3_4)] [] [(aT, .inr (2, [.ref aT_points, .int T_count, .ref aT_keys, .ref aT_aparts, .ref aT_roots, .ref aT_firsts, .ref aT_seconds, .ref aT_parts, .ref aT_firstSides, .ref aT_otherSides, .ref aT_joinsAbove, .ref aT_pointsAbove, .ref aT_pairs, .ref aT_links, .ref aT_nodes])), (aT_points, .inr (4, [.int T_points_count, .ref aT_points_xs, .ref aT_points_ys, .ref aT_points_ws])), (aT_links, .inl (cJ, 24, .inr (.inl T_links)))]
  refine r_iload_n S dX2_nextToGrow_4 rfl 3 rfl ?_
  refine r_aload_n S dX2_nextToGrow_5 rfl 0 rfl ?_
  refine r_get (T := TX2) (ci := 2) S (tlA inlX2) rfl 0 rfl 0 (Nat.le_of_ble_eq_true rfl) (tl u50) rfl dX2_nextToGrow_6 ?_
  refine r_get (T := TX4) (ci := 4) S (tlA inlX4) rfl 1 rfl 0 (Nat.le_of_ble_eq_true rfl) (tl u182) rfl dX2_nextToGrow_9 ?_
  refine r_icmp_ge 52 S dX2_nextToGrow_12 (by decide) (fun c2 => ?_) (fun c2 => ?_)
  · replace hm := iT c2 hm
    refine r_iload_n S dX2_nextToGrow_52 rfl 2 rfl ?_
    exact hR4 x2_4 _ _ (hr4 _ (Option.some.inj hm).symm) dX2_nextToGrow_53
  · replace hm := iF c2 hm
    refine r_iload_n S dX2_nextToGrow_15 rfl 1 rfl ?_
    refine r_iload_n S dX2_nextToGrow_16 rfl 3 rfl ?_
    obtain ⟨r3, h_r3, hm⟩ := bS hm
    refine r_callzS S (c_X6_has l0 D0 cI cJ cZ cY F x1 x3_4 _ h_r3) (gS u213 u214 u215 u216) ok_X6_has ⟨rfl, rfl⟩ ⟨Nat.le_of_ble_eq_true rfl, Nat.le_of_ble_eq_true rfl⟩ [] [0, 1, 2] rfl (wr := [(aT, .inr (2, [.ref aT_points, .int T_count, .ref aT_keys, .ref aT_aparts, .ref aT_roots, .ref aT_firsts, .ref aT_seconds, .ref aT_parts, .ref aT_firstSides, .ref aT_otherSides, .ref aT_joinsAbove, .ref aT_pointsAbove, .ref aT_pairs, .ref aT_links, .ref aT_nodes])), (aT_points, .inr (4, [.int T_points_count, .ref aT_points_xs, .ref aT_points_ys, .ref aT_points_ws])), (aT_links, .inl (cJ, 24, .inr (.inl T_links)))]) rfl rfl rfl (by decide) (ws' := [(aT, .inr (2, [.ref aT_points, .int T_count, .ref aT_keys, .ref aT_aparts, .ref aT_roots, .ref aT_firsts, .ref aT_seconds, .ref aT_parts, .ref aT_firstSides, .ref aT_otherSides, .ref aT_joinsAbove, .ref aT_pointsAbove, .ref aT_pairs, .ref aT_links, .ref aT_nodes])), (aT_points, .inr (4, [.int T_points_count, .ref aT_points_xs, .ref aT_points_ys, .ref aT_points_ws])), (aT_links, .inl (cJ, 24, .inr (.inl T_links)))]) rfl (As := [.int x1, .int x3_4]) (rest := []) rfl rfl (Nat.le_of_ble_eq_true rfl) dX2_nextToGrow_17 (fun hz_r3 => ?_)
    refine r_if_ne 46 S dX2_nextToGrow_20 (by decide) (fun c4 => ?_) (fun c4 => ?_)
    · replace hm := iF c4 hm
      refine r_iincc S dX2_nextToGrow_46 3 rfl (c0 := (1 : Int32)) rfl rfl (Nat.le_of_ble_eq_true rfl) (lv' := [(3, .int (x3_4 + (1 : Int32))), (0, .ref aT), (1, .int x1), (2, .int x2_4)]) rfl ?_
      refine r_goto 4 S dX2_nextToGrow_49 (by decide) ?_
      refine r_lv [1, 2, 3, 0] (lv' := [(0, .ref aT), (1, .int x1), (2, .int x2_4), (3, .int (x3_4 + (1 : Int32)))]) rfl ?_
      exact hk4 (x2_4, (x3_4 + (1 : Int32))) (Option.some.inj hm).symm
    · replace hm := iT c4 hm
      refine r_iload_n S dX2_nextToGrow_23 rfl 2 rfl ?_
      refine r_iconst (v := (-1 : Int32)) S dX2_nextToGrow_24 rfl ?_
      refine r_icmp_eq 44 S dX2_nextToGrow_25 (by decide) (fun c5 => ?_) (fun c5 => ?_)
      · replace hm := iT c5 hm
        refine r_iload_n S dX2_nextToGrow_44 rfl 3 rfl ?_
        refine r_istore_n S dX2_nextToGrow_45 rfl (Nat.le_of_ble_eq_true rfl) (lv' := [(2, .int x3_4), (0, .ref aT), (1, .int x1), (3, .int x3_4)]) rfl ?_
        refine r_iincc S dX2_nextToGrow_46 3 rfl (c0 := (1 : Int32)) rfl rfl (Nat.le_of_ble_eq_true rfl) (lv' := [(3, .int (x3_4 + (1 : Int32))), (2, .int x3_4), (0, .ref aT), (1, .int x1)]) rfl ?_
        refine r_goto 4 S dX2_nextToGrow_49 (by decide) ?_
        refine r_lv [2, 3, 1, 0] (lv' := [(0, .ref aT), (1, .int x1), (2, .int x3_4), (3, .int (x3_4 + (1 : Int32)))]) rfl ?_
        exact hk4 (x3_4, (x3_4 + (1 : Int32))) (Option.some.inj hm).symm
      · replace hm := iF c5 hm
        refine r_aload_n S dX2_nextToGrow_28 rfl 0 rfl ?_
        refine r_get (T := TX2) (ci := 2) S (tlA inlX2) rfl 0 rfl 13 (Nat.le_of_ble_eq_true rfl) (tl u64) rfl dX2_nextToGrow_29 ?_
        refine r_iload_n S dX2_nextToGrow_32 rfl 3 rfl ?_
        obtain ⟨v6, h_v6, hm⟩ := bS hm
        refine r_lald S h_v6 2 1 rfl rfl dX2_nextToGrow_33 ?_
        refine r_aload_n S dX2_nextToGrow_34 rfl 0 rfl ?_
        refine r_get (T := TX2) (ci := 2) S (tlA inlX2) rfl 0 rfl 13 (Nat.le_of_ble_eq_true rfl) (tl u64) rfl dX2_nextToGrow_35 ?_
        refine r_iload_n S dX2_nextToGrow_38 rfl 2 rfl ?_
        obtain ⟨v7, h_v7, hm⟩ := bS hm
        refine r_lald S h_v7 2 1 rfl rfl dX2_nextToGrow_39 ?_
        refine r_lcmp S dX2_nextToGrow_40 ?_
        refine r_if_ge 46 S dX2_nextToGrow_41 (by decide) (fun c8 => ?_) (fun c8 => ?_)
        · replace hm := iT c8 hm
          refine r_iincc S dX2_nextToGrow_46 3 rfl (c0 := (1 : Int32)) rfl rfl (Nat.le_of_ble_eq_true rfl) (lv' := [(3, .int (x3_4 + (1 : Int32))), (0, .ref aT), (1, .int x1), (2, .int x2_4)]) rfl ?_
          refine r_goto 4 S dX2_nextToGrow_49 (by decide) ?_
          refine r_lv [1, 2, 3, 0] (lv' := [(0, .ref aT), (1, .int x1), (2, .int x2_4), (3, .int (x3_4 + (1 : Int32)))]) rfl ?_
          exact hk4 (x2_4, (x3_4 + (1 : Int32))) (Option.some.inj hm).symm
        · replace hm := iF c8 hm
          refine r_iload_n S dX2_nextToGrow_44 rfl 3 rfl ?_
          refine r_istore_n S dX2_nextToGrow_45 rfl (Nat.le_of_ble_eq_true rfl) (lv' := [(2, .int x3_4), (0, .ref aT), (1, .int x1), (3, .int x3_4)]) rfl ?_
          refine r_iincc S dX2_nextToGrow_46 3 rfl (c0 := (1 : Int32)) rfl rfl (Nat.le_of_ble_eq_true rfl) (lv' := [(3, .int (x3_4 + (1 : Int32))), (2, .int x3_4), (0, .ref aT), (1, .int x1)]) rfl ?_
          refine r_goto 4 S dX2_nextToGrow_49 (by decide) ?_
          refine r_lv [2, 3, 1, 0] (lv' := [(0, .ref aT), (1, .int x1), (2, .int x3_4), (3, .int (x3_4 + (1 : Int32)))]) rfl ?_
          exact hk4 (x3_4, (x3_4 + (1 : Int32))) (Option.some.inj hm).symm
def wtX2_putKey : List Cond := Cond.code yX2_putKey cX2_putKey 4 none :: wsL_law
theorem ok_X2_putKey : CallOK yX2_putKey wtX2_putKey RX2 1 4 := ⟨⟨_, _, _, rfl⟩, rfl, ⟨by decide +kernel, by decide +kernel⟩, by decide +kernel⟩
set_option maxRecDepth 100000 in
set_option maxHeartbeats 4000000 in
theorem c_X2_putKey (l0 : Launch) (D0 : va_G) (cI cJ cZ cY : ClassId) (F : Nat) (aT aT_points aT_keys aT_aparts aT_roots aT_firsts aT_seconds aT_parts aT_firstSides aT_otherSides aT_joinsAbove aT_pointsAbove aT_pairs aT_links aT_nodes : Nat) (T_count : Int32) (T_keys : Nat → Int64) (x1 : Int64) (res : Int32 × (Nat → Int64)) (hm : mX2_putKey F x1 T_count T_keys = some res) : Cv D0 [(cI, .int), (cJ, .long), (cZ, .boolean), (cY, .array .int)] l0 yX2_putKey wtX2_putKey ({ frames := 0, cells := 0, slots := 0, locals := 0 }) [.ref aT, .long x1] [(aT, .inr (2, [.ref aT_points, .int T_count, .ref aT_keys, .ref aT_aparts, .ref aT_roots, .ref aT_firsts, .ref aT_seconds, .ref aT_parts, .ref aT_firstSides, .ref aT_otherSides, .ref aT_joinsAbove, .ref aT_pointsAbove, .ref aT_pairs, .ref aT_links, .ref aT_nodes])), (aT_keys, .inl (cJ, 24, .inr (.inl T_keys)))] [(aT, .inr (2, [.ref aT_points, .int (res.1), .ref aT_keys, .ref aT_aparts, .ref aT_roots, .ref aT_firsts, .ref aT_seconds, .ref aT_parts, .ref aT_firstSides, .ref aT_otherSides, .ref aT_joinsAbove, .ref aT_pointsAbove, .ref aT_pairs, .ref aT_links, .ref aT_nodes])), (aT_keys, .inl (cJ, 24, .inr (.inl (res.2))))] := by
  refine Cv.ofv cX2_putKey 4 (own := RX2) (by decide +kernel) rfl rfl (Nat.le_of_ble_eq_true rfl) ?_
  intro X S hR0
  have hR : ∀ (r9 : Int32 × (Nat → Int64)) (pc : Nat) (lv : List (Nat × Value)), some r9 = some res → decode cX2_putKey pc = .ok (.return_, 1) → G X pc lv [] [(aT, .inr (2, [.ref aT_points, .int (r9.1), .ref aT_keys, .ref aT_aparts, .ref aT_roots, .ref aT_firsts, .ref aT_seconds, .ref aT_parts, .ref aT_firstSides, .ref aT_otherSides, .ref aT_joinsAbove, .ref aT_pointsAbove, .ref aT_pairs, .ref aT_links, .ref aT_nodes])), (aT_keys, .inl (cJ, 24, .inr (.inl (r9.2))))] := fun r9 pc lv h9 hd => by cases h9; exact hR0 pc lv hd
  show G X 0 [(0, .ref aT), (1, .long x1)] [] [(aT, .inr (2, [.ref aT_points, .int T_count, .ref aT_keys, .ref aT_aparts, .ref aT_roots, .ref aT_firsts, .ref aT_seconds, .ref aT_parts, .ref aT_firstSides, .ref aT_otherSides, .ref aT_joinsAbove, .ref aT_pointsAbove, .ref aT_pairs, .ref aT_links, .ref aT_nodes])), (aT_keys, .inl (cJ, 24, .inr (.inl T_keys)))]
  unfold mX2_putKey at hm
  refine r_aload_n S dX2_putKey_0 rfl 0 rfl ?_
  refine r_get (T := TX2) (ci := 2) S (tlA inlX2) rfl 0 rfl 1 (Nat.le_of_ble_eq_true rfl) (tl u51) rfl dX2_putKey_1 ?_
  refine r_bipush (v := (24 : Int32)) S dX2_putKey_4 rfl ?_
  refine r_icmp_lt 10 S dX2_putKey_6 (by decide) (fun c1 => ?_) (fun c1 => ?_)
  · replace hm := iT c1 hm
    refine r_aload_n S dX2_putKey_10 rfl 0 rfl ?_
    refine r_get (T := TX2) (ci := 2) S (tlA inlX2) rfl 0 rfl 1 (Nat.le_of_ble_eq_true rfl) (tl u51) rfl dX2_putKey_11 ?_
    refine r_istore_n S dX2_putKey_14 rfl (Nat.le_of_ble_eq_true rfl) (lv' := [(3, .int T_count), (0, .ref aT), (1, .long x1)]) rfl ?_
    have hR15 : ∀ (r9 : Int32 × (Nat → Int64)) (pc : Nat) (lv : List (Nat × Value)), r9 = res → decode cX2_putKey pc = .ok (.return_, 1) → G X pc lv [] [(aT, .inr (2, [.ref aT_points, .int (r9.1), .ref aT_keys, .ref aT_aparts, .ref aT_roots, .ref aT_firsts, .ref aT_seconds, .ref aT_parts, .ref aT_firstSides, .ref aT_otherSides, .ref aT_joinsAbove, .ref aT_pointsAbove, .ref aT_pairs, .ref aT_links, .ref aT_nodes])), (aT_keys, .inl (cJ, 24, .inr (.inl (r9.2))))] := fun r9 pc lv h9 hd => hR r9 pc lv (congrArg some h9) hd
    refine r_lv [1, 2, 0] (lv' := [(0, .ref aT), (1, .long x1), (3, .int T_count)]) rfl ?_
    refine loopG (r0 := res) (Gd := fun s9 => G X 15 [(0, .ref aT), (1, .long x1), (3, .int s9.1)] [] [(aT, .inr (2, [.ref aT_points, .int T_count, .ref aT_keys, .ref aT_aparts, .ref aT_roots, .ref aT_firsts, .ref aT_seconds, .ref aT_parts, .ref aT_firstSides, .ref aT_otherSides, .ref aT_joinsAbove, .ref aT_pointsAbove, .ref aT_pairs, .ref aT_links, .ref aT_nodes])), (aT_keys, .inl (cJ, 24, .inr (.inl s9.2)))]) ?_ _ _ hm
    rintro ⟨x3_15, T_keys_15⟩ b15 hm hk15 hr15
    replace hm : mX2_putKey_b15 F x1 T_count x3_15 T_keys_15 = some b15 := hm
    unfold mX2_putKey_b15 at hm
    show G X 15 [(0, .ref aT), (1, .long x1), (3, .int x3_15)] [] [(aT, .inr (2, [.ref aT_points, .int T_count, .ref aT_keys, .ref aT_aparts, .ref aT_roots, .ref aT_firsts, .ref aT_seconds, .ref aT_parts, .ref aT_firstSides, .ref aT_otherSides, .ref aT_joinsAbove, .ref aT_pointsAbove, .ref aT_pairs, .ref aT_links, .ref aT_nodes])), (aT_keys, .inl (cJ, 24, .inr (.inl T_keys_15)))]
    refine r_iload_n S dX2_putKey_15 rfl 2 rfl ?_
    refine r_if_le 52 S dX2_putKey_16 (by decide) (fun c3 => ?_) (fun c3 => ?_)
    · replace hm := iT c3 hm
      refine r_aload_n S dX2_putKey_52 rfl 0 rfl ?_
      refine r_get (T := TX2) (ci := 2) S (tlA inlX2) rfl 0 rfl 2 (Nat.le_of_ble_eq_true rfl) (tl u53) rfl dX2_putKey_53 ?_
      refine r_iload_n S dX2_putKey_56 rfl 2 rfl ?_
      refine r_lload_n S dX2_putKey_57 rfl 1 rfl ?_
      obtain ⟨g4, h_g4, hm⟩ := bS hm
      refine r_last S h_g4 1 1 rfl rfl (ws' := [(aT, .inr (2, [.ref aT_points, .int T_count, .ref aT_keys, .ref aT_aparts, .ref aT_roots, .ref aT_firsts, .ref aT_seconds, .ref aT_parts, .ref aT_firstSides, .ref aT_otherSides, .ref aT_joinsAbove, .ref aT_pointsAbove, .ref aT_pairs, .ref aT_links, .ref aT_nodes])), (aT_keys, .inl (cJ, 24, .inr (.inl g4)))]) rfl dX2_putKey_58 ?_
      refine r_aload_n S dX2_putKey_59 rfl 0 rfl ?_
      refine r_dup S dX2_putKey_60 rfl ?_
      refine r_get (T := TX2) (ci := 2) S (tlA inlX2) rfl 0 rfl 1 (Nat.le_of_ble_eq_true rfl) (tl u51) rfl dX2_putKey_61 ?_
      refine r_iconst (v := (1 : Int32)) S dX2_putKey_64 rfl ?_
      refine r_iadd S dX2_putKey_65 ?_
      obtain ⟨v5, h_v5, hm⟩ := bS hm
      refine r_topI h_v5 ?_
      refine r_put (T := TX2) (ci := 2) S (tlA inlX2) tyX2 tyX2_ok nmX2 rfl 0 rfl 1 (Nat.le_of_ble_eq_true rfl) (tl u51) rfl rfl rfl (Nat.le_of_ble_eq_true rfl) (ws' := [(aT, .inr (2, [.ref aT_points, .int v5, .ref aT_keys, .ref aT_aparts, .ref aT_roots, .ref aT_firsts, .ref aT_seconds, .ref aT_parts, .ref aT_firstSides, .ref aT_otherSides, .ref aT_joinsAbove, .ref aT_pointsAbove, .ref aT_pairs, .ref aT_links, .ref aT_nodes])), (aT_keys, .inl (cJ, 24, .inr (.inl g4)))]) rfl dX2_putKey_66 ?_
      exact hR15 (v5, g4) _ _ (hr15 _ (Option.some.inj hm).symm) dX2_putKey_69
    · replace hm := iF c3 hm
      refine r_aload_n S dX2_putKey_19 rfl 0 rfl ?_
      refine r_get (T := TX2) (ci := 2) S (tlA inlX2) rfl 0 rfl 2 (Nat.le_of_ble_eq_true rfl) (tl u53) rfl dX2_putKey_20 ?_
      refine r_iload_n S dX2_putKey_23 rfl 2 rfl ?_
      refine r_iconst (v := (1 : Int32)) S dX2_putKey_24 rfl ?_
      refine r_isub S dX2_putKey_25 ?_
      obtain ⟨v6, h_v6, hm⟩ := bS hm
      refine r_lald S h_v6 1 1 rfl rfl dX2_putKey_26 ?_
      refine r_lload_n S dX2_putKey_27 rfl 1 rfl ?_
      refine r_lcmp S dX2_putKey_28 ?_
      refine r_if_le 52 S dX2_putKey_29 (by decide) (fun c7 => ?_) (fun c7 => ?_)
      · replace hm := iT c7 hm
        refine r_aload_n S dX2_putKey_52 rfl 0 rfl ?_
        refine r_get (T := TX2) (ci := 2) S (tlA inlX2) rfl 0 rfl 2 (Nat.le_of_ble_eq_true rfl) (tl u53) rfl dX2_putKey_53 ?_
        refine r_iload_n S dX2_putKey_56 rfl 2 rfl ?_
        refine r_lload_n S dX2_putKey_57 rfl 1 rfl ?_
        obtain ⟨g8, h_g8, hm⟩ := bS hm
        refine r_last S h_g8 1 1 rfl rfl (ws' := [(aT, .inr (2, [.ref aT_points, .int T_count, .ref aT_keys, .ref aT_aparts, .ref aT_roots, .ref aT_firsts, .ref aT_seconds, .ref aT_parts, .ref aT_firstSides, .ref aT_otherSides, .ref aT_joinsAbove, .ref aT_pointsAbove, .ref aT_pairs, .ref aT_links, .ref aT_nodes])), (aT_keys, .inl (cJ, 24, .inr (.inl g8)))]) rfl dX2_putKey_58 ?_
        refine r_aload_n S dX2_putKey_59 rfl 0 rfl ?_
        refine r_dup S dX2_putKey_60 rfl ?_
        refine r_get (T := TX2) (ci := 2) S (tlA inlX2) rfl 0 rfl 1 (Nat.le_of_ble_eq_true rfl) (tl u51) rfl dX2_putKey_61 ?_
        refine r_iconst (v := (1 : Int32)) S dX2_putKey_64 rfl ?_
        refine r_iadd S dX2_putKey_65 ?_
        obtain ⟨v9, h_v9, hm⟩ := bS hm
        refine r_topI h_v9 ?_
        refine r_put (T := TX2) (ci := 2) S (tlA inlX2) tyX2 tyX2_ok nmX2 rfl 0 rfl 1 (Nat.le_of_ble_eq_true rfl) (tl u51) rfl rfl rfl (Nat.le_of_ble_eq_true rfl) (ws' := [(aT, .inr (2, [.ref aT_points, .int v9, .ref aT_keys, .ref aT_aparts, .ref aT_roots, .ref aT_firsts, .ref aT_seconds, .ref aT_parts, .ref aT_firstSides, .ref aT_otherSides, .ref aT_joinsAbove, .ref aT_pointsAbove, .ref aT_pairs, .ref aT_links, .ref aT_nodes])), (aT_keys, .inl (cJ, 24, .inr (.inl g8)))]) rfl dX2_putKey_66 ?_
        exact hR15 (v9, g8) _ _ (hr15 _ (Option.some.inj hm).symm) dX2_putKey_69
      · replace hm := iF c7 hm
        refine r_aload_n S dX2_putKey_32 rfl 0 rfl ?_
        refine r_get (T := TX2) (ci := 2) S (tlA inlX2) rfl 0 rfl 2 (Nat.le_of_ble_eq_true rfl) (tl u53) rfl dX2_putKey_33 ?_
        refine r_iload_n S dX2_putKey_36 rfl 2 rfl ?_
        refine r_aload_n S dX2_putKey_37 rfl 0 rfl ?_
        refine r_get (T := TX2) (ci := 2) S (tlA inlX2) rfl 0 rfl 2 (Nat.le_of_ble_eq_true rfl) (tl u53) rfl dX2_putKey_38 ?_
        refine r_iload_n S dX2_putKey_41 rfl 2 rfl ?_
        refine r_iconst (v := (1 : Int32)) S dX2_putKey_42 rfl ?_
        refine r_isub S dX2_putKey_43 ?_
        obtain ⟨v10, h_v10, hm⟩ := bS hm
        refine r_lald S h_v10 1 1 rfl rfl dX2_putKey_44 ?_
        obtain ⟨g11, h_g11, hm⟩ := bS hm
        refine r_last S h_g11 1 1 rfl rfl (ws' := [(aT, .inr (2, [.ref aT_points, .int T_count, .ref aT_keys, .ref aT_aparts, .ref aT_roots, .ref aT_firsts, .ref aT_seconds, .ref aT_parts, .ref aT_firstSides, .ref aT_otherSides, .ref aT_joinsAbove, .ref aT_pointsAbove, .ref aT_pairs, .ref aT_links, .ref aT_nodes])), (aT_keys, .inl (cJ, 24, .inr (.inl g11)))]) rfl dX2_putKey_45 ?_
        refine r_iincc S dX2_putKey_46 2 rfl (c0 := (-1 : Int32)) rfl rfl (Nat.le_of_ble_eq_true rfl) (lv' := [(3, .int (x3_15 + (-1 : Int32))), (0, .ref aT), (1, .long x1)]) rfl ?_
        refine r_goto 15 S dX2_putKey_49 (by decide) ?_
        refine r_lv [1, 2, 0] (lv' := [(0, .ref aT), (1, .long x1), (3, .int (x3_15 + (-1 : Int32)))]) rfl ?_
        exact hk15 ((x3_15 + (-1 : Int32)), g11) (Option.some.inj hm).symm
  · replace hm := iF c1 hm
    exact hR (T_count, T_keys) _ _ hm dX2_putKey_9
def wtX2_growTree : List Cond := Cond.code yX2_growTree cX2_growTree 5 none :: wsL_law
theorem ok_X2_growTree : CallOK yX2_growTree wtX2_growTree RX2 0 5 := ⟨⟨_, _, _, rfl⟩, rfl, ⟨by decide +kernel, by decide +kernel⟩, by decide +kernel⟩
set_option maxRecDepth 100000 in
set_option maxHeartbeats 4000000 in
theorem c_X2_growTree (l0 : Launch) (D0 : va_G) (cI cJ cZ cY : ClassId) (F : Nat) (aT aT_points aT_keys aT_aparts aT_roots aT_firsts aT_seconds aT_parts aT_firstSides aT_otherSides aT_joinsAbove aT_pointsAbove aT_pairs aT_links aT_nodes aT_points_xs aT_points_ys aT_points_ws : Nat) (T_count : Int32) (T_points_count : Int32) (T_keys : Nat → Int64) (T_links : Nat → Int64) (T_points_xs : Nat → Int32) (T_points_ys : Nat → Int32) (res : Int32 × (Nat → Int64) × (Nat → Int64)) (hm : mX2_growTree F T_count T_points_count T_keys T_links T_points_xs T_points_ys = some res) : Cv D0 [(cI, .int), (cJ, .long), (cZ, .boolean), (cY, .array .int)] l0 yX2_growTree wtX2_growTree ({ frames := 3, cells := 0, slots := 0, locals := 69 }) [.ref aT] [(aT, .inr (2, [.ref aT_points, .int T_count, .ref aT_keys, .ref aT_aparts, .ref aT_roots, .ref aT_firsts, .ref aT_seconds, .ref aT_parts, .ref aT_firstSides, .ref aT_otherSides, .ref aT_joinsAbove, .ref aT_pointsAbove, .ref aT_pairs, .ref aT_links, .ref aT_nodes])), (aT_points, .inr (4, [.int T_points_count, .ref aT_points_xs, .ref aT_points_ys, .ref aT_points_ws])), (aT_keys, .inl (cJ, 24, .inr (.inl T_keys))), (aT_links, .inl (cJ, 24, .inr (.inl T_links))), (aT_points_xs, .inl (cI, 24, .inl T_points_xs)), (aT_points_ys, .inl (cI, 24, .inl T_points_ys))] [(aT, .inr (2, [.ref aT_points, .int (res.1), .ref aT_keys, .ref aT_aparts, .ref aT_roots, .ref aT_firsts, .ref aT_seconds, .ref aT_parts, .ref aT_firstSides, .ref aT_otherSides, .ref aT_joinsAbove, .ref aT_pointsAbove, .ref aT_pairs, .ref aT_links, .ref aT_nodes])), (aT_points, .inr (4, [.int T_points_count, .ref aT_points_xs, .ref aT_points_ys, .ref aT_points_ws])), (aT_keys, .inl (cJ, 24, .inr (.inl (res.2.1)))), (aT_links, .inl (cJ, 24, .inr (.inl (res.2.2)))), (aT_points_xs, .inl (cI, 24, .inl T_points_xs)), (aT_points_ys, .inl (cI, 24, .inl T_points_ys))] := by
  refine Cv.ofv cX2_growTree 5 (own := RX2) (by decide +kernel) rfl rfl (Nat.le_of_ble_eq_true rfl) ?_
  intro X S hR0
  have hR : ∀ (r9 : Int32 × (Nat → Int64) × (Nat → Int64)) (pc : Nat) (lv : List (Nat × Value)), some r9 = some res → decode cX2_growTree pc = .ok (.return_, 1) → G X pc lv [] [(aT, .inr (2, [.ref aT_points, .int (r9.1), .ref aT_keys, .ref aT_aparts, .ref aT_roots, .ref aT_firsts, .ref aT_seconds, .ref aT_parts, .ref aT_firstSides, .ref aT_otherSides, .ref aT_joinsAbove, .ref aT_pointsAbove, .ref aT_pairs, .ref aT_links, .ref aT_nodes])), (aT_points, .inr (4, [.int T_points_count, .ref aT_points_xs, .ref aT_points_ys, .ref aT_points_ws])), (aT_keys, .inl (cJ, 24, .inr (.inl (r9.2.1)))), (aT_links, .inl (cJ, 24, .inr (.inl (r9.2.2)))), (aT_points_xs, .inl (cI, 24, .inl T_points_xs)), (aT_points_ys, .inl (cI, 24, .inl T_points_ys))] := fun r9 pc lv h9 hd => by cases h9; exact hR0 pc lv hd
  show G X 0 [(0, .ref aT)] [] [(aT, .inr (2, [.ref aT_points, .int T_count, .ref aT_keys, .ref aT_aparts, .ref aT_roots, .ref aT_firsts, .ref aT_seconds, .ref aT_parts, .ref aT_firstSides, .ref aT_otherSides, .ref aT_joinsAbove, .ref aT_pointsAbove, .ref aT_pairs, .ref aT_links, .ref aT_nodes])), (aT_points, .inr (4, [.int T_points_count, .ref aT_points_xs, .ref aT_points_ys, .ref aT_points_ws])), (aT_keys, .inl (cJ, 24, .inr (.inl T_keys))), (aT_links, .inl (cJ, 24, .inr (.inl T_links))), (aT_points_xs, .inl (cI, 24, .inl T_points_xs)), (aT_points_ys, .inl (cI, 24, .inl T_points_ys))]
  unfold mX2_growTree at hm
  refine r_aload_n S dX2_growTree_0 rfl 0 rfl ?_
  refine r_iconst (v := (0 : Int32)) S dX2_growTree_1 rfl ?_
  refine r_put (T := TX2) (ci := 2) S (tlA inlX2) tyX2 tyX2_ok nmX2 rfl 0 rfl 1 (Nat.le_of_ble_eq_true rfl) (tl u51) rfl rfl rfl (Nat.le_of_ble_eq_true rfl) (ws' := [(aT, .inr (2, [.ref aT_points, .int (0 : Int32), .ref aT_keys, .ref aT_aparts, .ref aT_roots, .ref aT_firsts, .ref aT_seconds, .ref aT_parts, .ref aT_firstSides, .ref aT_otherSides, .ref aT_joinsAbove, .ref aT_pointsAbove, .ref aT_pairs, .ref aT_links, .ref aT_nodes])), (aT_points, .inr (4, [.int T_points_count, .ref aT_points_xs, .ref aT_points_ys, .ref aT_points_ws])), (aT_keys, .inl (cJ, 24, .inr (.inl T_keys))), (aT_links, .inl (cJ, 24, .inr (.inl T_links))), (aT_points_xs, .inl (cI, 24, .inl T_points_xs)), (aT_points_ys, .inl (cI, 24, .inl T_points_ys))]) rfl dX2_growTree_2 ?_
  refine r_iconst (v := (1 : Int32)) S dX2_growTree_5 rfl ?_
  refine r_istore_n S dX2_growTree_6 rfl (Nat.le_of_ble_eq_true rfl) (lv' := [(1, .int (1 : Int32)), (0, .ref aT)]) rfl ?_
  refine r_iconst (v := (1 : Int32)) S dX2_growTree_7 rfl ?_
  refine r_istore_n S dX2_growTree_8 rfl (Nat.le_of_ble_eq_true rfl) (lv' := [(2, .int (1 : Int32)), (1, .int (1 : Int32)), (0, .ref aT)]) rfl ?_
  obtain ⟨q1, hl9, hm⟩ := bS hm
  have hE9_38 : ∀ (r1 : (Nat → Int64)), r1 = q1 → G X 38 [(0, .ref aT), (1, .int (1 : Int32))] [] [(aT, .inr (2, [.ref aT_points, .int (0 : Int32), .ref aT_keys, .ref aT_aparts, .ref aT_roots, .ref aT_firsts, .ref aT_seconds, .ref aT_parts, .ref aT_firstSides, .ref aT_otherSides, .ref aT_joinsAbove, .ref aT_pointsAbove, .ref aT_pairs, .ref aT_links, .ref aT_nodes])), (aT_points, .inr (4, [.int T_points_count, .ref aT_points_xs, .ref aT_points_ys, .ref aT_points_ws])), (aT_keys, .inl (cJ, 24, .inr (.inl T_keys))), (aT_links, .inl (cJ, 24, .inr (.inl r1))), (aT_points_xs, .inl (cI, 24, .inl T_points_xs)), (aT_points_ys, .inl (cI, 24, .inl T_points_ys))] := by
    intro r1 h9
    subst h9
    refine r_iconst (v := (1 : Int32)) S dX2_growTree_38 rfl ?_
    refine r_istore_n S dX2_growTree_39 rfl (Nat.le_of_ble_eq_true rfl) (lv' := [(2, .int (1 : Int32)), (0, .ref aT), (1, .int (1 : Int32))]) rfl ?_
    have hR40 : ∀ (r9 : Int32 × (Nat → Int64) × (Nat → Int64)) (pc : Nat) (lv : List (Nat × Value)), r9 = res → decode cX2_growTree pc = .ok (.return_, 1) → G X pc lv [] [(aT, .inr (2, [.ref aT_points, .int (r9.1), .ref aT_keys, .ref aT_aparts, .ref aT_roots, .ref aT_firsts, .ref aT_seconds, .ref aT_parts, .ref aT_firstSides, .ref aT_otherSides, .ref aT_joinsAbove, .ref aT_pointsAbove, .ref aT_pairs, .ref aT_links, .ref aT_nodes])), (aT_points, .inr (4, [.int T_points_count, .ref aT_points_xs, .ref aT_points_ys, .ref aT_points_ws])), (aT_keys, .inl (cJ, 24, .inr (.inl (r9.2.1)))), (aT_links, .inl (cJ, 24, .inr (.inl (r9.2.2)))), (aT_points_xs, .inl (cI, 24, .inl T_points_xs)), (aT_points_ys, .inl (cI, 24, .inl T_points_ys))] := fun r9 pc lv h9 hd => hR r9 pc lv (congrArg some h9) hd
    refine r_lv [1, 2, 0] (lv' := [(0, .ref aT), (1, .int (1 : Int32)), (2, .int (1 : Int32))]) rfl ?_
    refine loopG (r0 := res) (Gd := fun s9 => G X 40 [(0, .ref aT), (1, .int s9.1), (2, .int s9.2.1)] [] [(aT, .inr (2, [.ref aT_points, .int s9.2.2.1, .ref aT_keys, .ref aT_aparts, .ref aT_roots, .ref aT_firsts, .ref aT_seconds, .ref aT_parts, .ref aT_firstSides, .ref aT_otherSides, .ref aT_joinsAbove, .ref aT_pointsAbove, .ref aT_pairs, .ref aT_links, .ref aT_nodes])), (aT_points, .inr (4, [.int T_points_count, .ref aT_points_xs, .ref aT_points_ys, .ref aT_points_ws])), (aT_keys, .inl (cJ, 24, .inr (.inl s9.2.2.2.1))), (aT_links, .inl (cJ, 24, .inr (.inl s9.2.2.2.2))), (aT_points_xs, .inl (cI, 24, .inl T_points_xs)), (aT_points_ys, .inl (cI, 24, .inl T_points_ys))]) ?_ _ _ hm
    rintro ⟨x1_40, x2_40, T_count_40, T_keys_40, T_links_40⟩ b40 hm hk40 hr40
    replace hm : mX2_growTree_b40 F T_points_count T_points_xs T_points_ys x1_40 x2_40 T_count_40 T_keys_40 T_links_40 = some b40 := hm
    unfold mX2_growTree_b40 at hm
    show G X 40 [(0, .ref aT), (1, .int x1_40), (2, .int x2_40)] [] [(aT, .inr (2, [.ref aT_points, .int T_count_40, .ref aT_keys, .ref aT_aparts, .ref aT_roots, .ref aT_firsts, .ref aT_seconds, .ref aT_parts, .ref aT_firstSides, .ref aT_otherSides, .ref aT_joinsAbove, .ref aT_pointsAbove, .ref aT_pairs, .ref aT_links, .ref aT_nodes])), (aT_points, .inr (4, [.int T_points_count, .ref aT_points_xs, .ref aT_points_ys, .ref aT_points_ws])), (aT_keys, .inl (cJ, 24, .inr (.inl T_keys_40))), (aT_links, .inl (cJ, 24, .inr (.inl T_links_40))), (aT_points_xs, .inl (cI, 24, .inl T_points_xs)), (aT_points_ys, .inl (cI, 24, .inl T_points_ys))]
    refine r_iload_n S dX2_growTree_40 rfl 2 rfl ?_
    refine r_aload_n S dX2_growTree_41 rfl 0 rfl ?_
    refine r_get (T := TX2) (ci := 2) S (tlA inlX2) rfl 0 rfl 0 (Nat.le_of_ble_eq_true rfl) (tl u50) rfl dX2_growTree_42 ?_
    refine r_get (T := TX4) (ci := 4) S (tlA inlX4) rfl 1 rfl 0 (Nat.le_of_ble_eq_true rfl) (tl u182) rfl dX2_growTree_45 ?_
    refine r_icmp_ge 139 S dX2_growTree_48 (by decide) (fun c6 => ?_) (fun c6 => ?_)
    · replace hm := iT c6 hm
      exact hR40 (T_count_40, T_keys_40, T_links_40) _ _ (hr40 _ (Option.some.inj hm).symm) dX2_growTree_139
    · replace hm := iF c6 hm
      refine r_aload_n S dX2_growTree_51 rfl 0 rfl ?_
      refine r_iload_n S dX2_growTree_52 rfl 1 rfl ?_
      obtain ⟨r7, h_r7, hm⟩ := bS hm
      refine r_calliV S (c_X2_nextToGrow l0 D0 cI cJ cZ cY F aT aT_points aT_keys aT_aparts aT_roots aT_firsts aT_seconds aT_parts aT_firstSides aT_otherSides aT_joinsAbove aT_pointsAbove aT_pairs aT_links aT_nodes aT_points_xs aT_points_ys aT_points_ws T_count_40 T_points_count T_links_40 x1_40 _ h_r7) (gV u209 u210 u211 u14 u212) ok_X2_nextToGrow ⟨rfl, rfl⟩ ⟨Nat.le_of_ble_eq_true rfl, Nat.le_of_ble_eq_true rfl⟩ [0, 1, 3] [2, 4, 5] rfl (wr := [(aT_keys, .inl (cJ, 24, .inr (.inl T_keys_40))), (aT_points_xs, .inl (cI, 24, .inl T_points_xs)), (aT_points_ys, .inl (cI, 24, .inl T_points_ys))]) rfl rfl rfl (by decide) (ci := 2) (T := TX2) 0 rfl rfl (ws' := [(aT_keys, .inl (cJ, 24, .inr (.inl T_keys_40))), (aT_points_xs, .inl (cI, 24, .inl T_points_xs)), (aT_points_ys, .inl (cI, 24, .inl T_points_ys)), (aT, .inr (2, [.ref aT_points, .int T_count_40, .ref aT_keys, .ref aT_aparts, .ref aT_roots, .ref aT_firsts, .ref aT_seconds, .ref aT_parts, .ref aT_firstSides, .ref aT_otherSides, .ref aT_joinsAbove, .ref aT_pointsAbove, .ref aT_pairs, .ref aT_links, .ref aT_nodes])), (aT_points, .inr (4, [.int T_points_count, .ref aT_points_xs, .ref aT_points_ys, .ref aT_points_ws])), (aT_links, .inl (cJ, 24, .inr (.inl T_links_40)))]) rfl (As := [.int x1_40]) (rest := []) rfl rfl (Nat.le_of_ble_eq_true rfl) dX2_growTree_53 ?_
      refine r_istore_n S dX2_growTree_56 rfl (Nat.le_of_ble_eq_true rfl) (lv' := [(3, .int r7), (0, .ref aT), (1, .int x1_40), (2, .int x2_40)]) rfl ?_
      refine r_iload_n S dX2_growTree_57 rfl 0 rfl ?_
      refine r_iconst (v := (-1 : Int32)) S dX2_growTree_58 rfl ?_
      refine r_icmp_ne 63 S dX2_growTree_59 (by decide) (fun c8 => ?_) (fun c8 => ?_)
      · replace hm := iF c8 hm
        refine r_aload_n S dX2_growTree_63 rfl 1 rfl ?_
        refine r_aload_n S dX2_growTree_64 rfl 1 rfl ?_
        refine r_get (T := TX2) (ci := 2) S (tlA inlX2) rfl 3 rfl 13 (Nat.le_of_ble_eq_true rfl) (tl u64) rfl dX2_growTree_65 ?_
        refine r_iload_n S dX2_growTree_68 rfl 0 rfl ?_
        obtain ⟨v9, h_v9, hm⟩ := bS hm
        refine r_lald S h_v9 5 1 rfl rfl dX2_growTree_69 ?_
        obtain ⟨r10, h_r10, hm⟩ := bS hm
        refine r_callvV S (c_X2_putKey l0 D0 cI cJ cZ cY F aT aT_points aT_keys aT_aparts aT_roots aT_firsts aT_seconds aT_parts aT_firstSides aT_otherSides aT_joinsAbove aT_pointsAbove aT_pairs aT_links aT_nodes T_count_40 T_keys_40 v9 _ h_r10) (gV u217 u218 u219 u14 u220) ok_X2_putKey ⟨rfl, rfl⟩ ⟨Nat.le_of_ble_eq_true rfl, Nat.le_of_ble_eq_true rfl⟩ [3, 0] [1, 2, 4, 5] rfl (wr := [(aT_points_xs, .inl (cI, 24, .inl T_points_xs)), (aT_points_ys, .inl (cI, 24, .inl T_points_ys)), (aT_points, .inr (4, [.int T_points_count, .ref aT_points_xs, .ref aT_points_ys, .ref aT_points_ws])), (aT_links, .inl (cJ, 24, .inr (.inl T_links_40)))]) rfl rfl rfl (by decide) (ci := 2) (T := TX2) 0 rfl rfl (ws' := [(aT_points_xs, .inl (cI, 24, .inl T_points_xs)), (aT_points_ys, .inl (cI, 24, .inl T_points_ys)), (aT_points, .inr (4, [.int T_points_count, .ref aT_points_xs, .ref aT_points_ys, .ref aT_points_ws])), (aT_links, .inl (cJ, 24, .inr (.inl T_links_40))), (aT, .inr (2, [.ref aT_points, .int r10.1, .ref aT_keys, .ref aT_aparts, .ref aT_roots, .ref aT_firsts, .ref aT_seconds, .ref aT_parts, .ref aT_firstSides, .ref aT_otherSides, .ref aT_joinsAbove, .ref aT_pointsAbove, .ref aT_pairs, .ref aT_links, .ref aT_nodes])), (aT_keys, .inl (cJ, 24, .inr (.inl r10.2)))]) rfl (As := [.long v9]) (rest := []) rfl rfl (Nat.le_of_ble_eq_true rfl) dX2_growTree_70 ?_
        refine r_iload_n S dX2_growTree_73 rfl 2 rfl ?_
        refine r_iconst (v := (1 : Int32)) S dX2_growTree_74 rfl ?_
        refine r_iload_n S dX2_growTree_75 rfl 0 rfl ?_
        refine r_ishl S dX2_growTree_76 ?_
        refine r_ior S dX2_growTree_77 ?_
        obtain ⟨v11, h_v11, hm⟩ := bS hm
        refine r_topI h_v11 ?_
        refine r_istore_n S dX2_growTree_78 rfl (Nat.le_of_ble_eq_true rfl) (lv' := [(1, .int v11), (3, .int r7), (0, .ref aT), (2, .int x2_40)]) rfl ?_
        refine r_iconst (v := (1 : Int32)) S dX2_growTree_79 rfl ?_
        refine r_istore S dX2_growTree_80 (Nat.le_of_ble_eq_true rfl) (lv' := [(4, .int (1 : Int32)), (1, .int v11), (3, .int r7), (0, .ref aT), (2, .int x2_40)]) rfl ?_
        obtain ⟨q12, hl82, hm⟩ := bS hm
        have hE82_133 : ∀ (r12 : (Nat → Int64)), r12 = q12 → G X 133 [(0, .ref aT), (1, .int v11), (2, .int x2_40)] [] [(aT, .inr (2, [.ref aT_points, .int r10.1, .ref aT_keys, .ref aT_aparts, .ref aT_roots, .ref aT_firsts, .ref aT_seconds, .ref aT_parts, .ref aT_firstSides, .ref aT_otherSides, .ref aT_joinsAbove, .ref aT_pointsAbove, .ref aT_pairs, .ref aT_links, .ref aT_nodes])), (aT_points, .inr (4, [.int T_points_count, .ref aT_points_xs, .ref aT_points_ys, .ref aT_points_ws])), (aT_keys, .inl (cJ, 24, .inr (.inl r10.2))), (aT_links, .inl (cJ, 24, .inr (.inl r12))), (aT_points_xs, .inl (cI, 24, .inl T_points_xs)), (aT_points_ys, .inl (cI, 24, .inl T_points_ys))] := by
          intro r12 h9
          subst h9
          refine r_iincc S dX2_growTree_133 2 rfl (c0 := (1 : Int32)) rfl rfl (Nat.le_of_ble_eq_true rfl) (lv' := [(2, .int (x2_40 + (1 : Int32))), (0, .ref aT), (1, .int v11)]) rfl ?_
          refine r_goto 40 S dX2_growTree_136 (by decide) ?_
          refine r_lv [1, 2, 0] (lv' := [(0, .ref aT), (1, .int v11), (2, .int (x2_40 + (1 : Int32)))]) rfl ?_
          exact hk40 (v11, (x2_40 + (1 : Int32)), r10.1, r10.2, r12) (Option.some.inj hm).symm
        refine r_perm [4, 2, 5, 3, 0, 1] (ws' := [(aT, .inr (2, [.ref aT_points, .int r10.1, .ref aT_keys, .ref aT_aparts, .ref aT_roots, .ref aT_firsts, .ref aT_seconds, .ref aT_parts, .ref aT_firstSides, .ref aT_otherSides, .ref aT_joinsAbove, .ref aT_pointsAbove, .ref aT_pairs, .ref aT_links, .ref aT_nodes])), (aT_points, .inr (4, [.int T_points_count, .ref aT_points_xs, .ref aT_points_ys, .ref aT_points_ws])), (aT_keys, .inl (cJ, 24, .inr (.inl r10.2))), (aT_links, .inl (cJ, 24, .inr (.inl T_links_40))), (aT_points_xs, .inl (cI, 24, .inl T_points_xs)), (aT_points_ys, .inl (cI, 24, .inl T_points_ys))]) rfl rfl ?_
        refine r_lv [3, 1, 4, 2, 0] (lv' := [(0, .ref aT), (1, .int v11), (2, .int x2_40), (3, .int r7), (4, .int (1 : Int32))]) rfl ?_
        refine loopG (r0 := q12) (Gd := fun s9 => G X 82 [(0, .ref aT), (1, .int v11), (2, .int x2_40), (3, .int r7), (4, .int s9.1)] [] [(aT, .inr (2, [.ref aT_points, .int r10.1, .ref aT_keys, .ref aT_aparts, .ref aT_roots, .ref aT_firsts, .ref aT_seconds, .ref aT_parts, .ref aT_firstSides, .ref aT_otherSides, .ref aT_joinsAbove, .ref aT_pointsAbove, .ref aT_pairs, .ref aT_links, .ref aT_nodes])), (aT_points, .inr (4, [.int T_points_count, .ref aT_points_xs, .ref aT_points_ys, .ref aT_points_ws])), (aT_keys, .inl (cJ, 24, .inr (.inl r10.2))), (aT_links, .inl (cJ, 24, .inr (.inl s9.2))), (aT_points_xs, .inl (cI, 24, .inl T_points_xs)), (aT_points_ys, .inl (cI, 24, .inl T_points_ys))]) ?_ _ _ hl82
        rintro ⟨x4_82, T_links_82⟩ b82 hm hk82 hr82
        replace hm : mX2_growTree_b82 F T_points_count T_points_xs T_points_ys r7 v11 x4_82 T_links_82 = some b82 := hm
        unfold mX2_growTree_b82 at hm
        show G X 82 [(0, .ref aT), (1, .int v11), (2, .int x2_40), (3, .int r7), (4, .int x4_82)] [] [(aT, .inr (2, [.ref aT_points, .int r10.1, .ref aT_keys, .ref aT_aparts, .ref aT_roots, .ref aT_firsts, .ref aT_seconds, .ref aT_parts, .ref aT_firstSides, .ref aT_otherSides, .ref aT_joinsAbove, .ref aT_pointsAbove, .ref aT_pairs, .ref aT_links, .ref aT_nodes])), (aT_points, .inr (4, [.int T_points_count, .ref aT_points_xs, .ref aT_points_ys, .ref aT_points_ws])), (aT_keys, .inl (cJ, 24, .inr (.inl r10.2))), (aT_links, .inl (cJ, 24, .inr (.inl T_links_82))), (aT_points_xs, .inl (cI, 24, .inl T_points_xs)), (aT_points_ys, .inl (cI, 24, .inl T_points_ys))]
        refine r_iload S dX2_growTree_82 4 rfl ?_
        refine r_aload_n S dX2_growTree_84 rfl 0 rfl ?_
        refine r_get (T := TX2) (ci := 2) S (tlA inlX2) rfl 0 rfl 0 (Nat.le_of_ble_eq_true rfl) (tl u50) rfl dX2_growTree_85 ?_
        refine r_get (T := TX4) (ci := 4) S (tlA inlX4) rfl 1 rfl 0 (Nat.le_of_ble_eq_true rfl) (tl u182) rfl dX2_growTree_88 ?_
        refine r_icmp_ge 133 S dX2_growTree_91 (by decide) (fun c13 => ?_) (fun c13 => ?_)
        · replace hm := iT c13 hm
          refine r_lv [0, 1, 2] (lv' := [(0, .ref aT), (1, .int v11), (2, .int x2_40)]) rfl ?_
          exact hE82_133 T_links_82 (hr82 _ (Option.some.inj hm).symm)
        · replace hm := iF c13 hm
          refine r_iload_n S dX2_growTree_94 rfl 1 rfl ?_
          refine r_iload S dX2_growTree_95 4 rfl ?_
          obtain ⟨r14, h_r14, hm⟩ := bS hm
          refine r_callzS S (c_X6_has l0 D0 cI cJ cZ cY F v11 x4_82 _ h_r14) (gS u213 u214 u215 u216) ok_X6_has ⟨rfl, rfl⟩ ⟨Nat.le_of_ble_eq_true rfl, Nat.le_of_ble_eq_true rfl⟩ [] [0, 1, 2, 3, 4, 5] rfl (wr := [(aT, .inr (2, [.ref aT_points, .int r10.1, .ref aT_keys, .ref aT_aparts, .ref aT_roots, .ref aT_firsts, .ref aT_seconds, .ref aT_parts, .ref aT_firstSides, .ref aT_otherSides, .ref aT_joinsAbove, .ref aT_pointsAbove, .ref aT_pairs, .ref aT_links, .ref aT_nodes])), (aT_points, .inr (4, [.int T_points_count, .ref aT_points_xs, .ref aT_points_ys, .ref aT_points_ws])), (aT_keys, .inl (cJ, 24, .inr (.inl r10.2))), (aT_links, .inl (cJ, 24, .inr (.inl T_links_82))), (aT_points_xs, .inl (cI, 24, .inl T_points_xs)), (aT_points_ys, .inl (cI, 24, .inl T_points_ys))]) rfl rfl rfl (by decide) (ws' := [(aT, .inr (2, [.ref aT_points, .int r10.1, .ref aT_keys, .ref aT_aparts, .ref aT_roots, .ref aT_firsts, .ref aT_seconds, .ref aT_parts, .ref aT_firstSides, .ref aT_otherSides, .ref aT_joinsAbove, .ref aT_pointsAbove, .ref aT_pairs, .ref aT_links, .ref aT_nodes])), (aT_points, .inr (4, [.int T_points_count, .ref aT_points_xs, .ref aT_points_ys, .ref aT_points_ws])), (aT_keys, .inl (cJ, 24, .inr (.inl r10.2))), (aT_links, .inl (cJ, 24, .inr (.inl T_links_82))), (aT_points_xs, .inl (cI, 24, .inl T_points_xs)), (aT_points_ys, .inl (cI, 24, .inl T_points_ys))]) rfl (As := [.int v11, .int x4_82]) (rest := []) rfl rfl (Nat.le_of_ble_eq_true rfl) dX2_growTree_97 (fun hz_r14 => ?_)
          refine r_if_ne 127 S dX2_growTree_100 (by decide) (fun c15 => ?_) (fun c15 => ?_)
          · replace hm := iF c15 hm
            refine r_iincc S dX2_growTree_127 4 rfl (c0 := (1 : Int32)) rfl rfl (Nat.le_of_ble_eq_true rfl) (lv' := [(4, .int (x4_82 + (1 : Int32))), (0, .ref aT), (1, .int v11), (2, .int x2_40), (3, .int r7)]) rfl ?_
            refine r_goto 82 S dX2_growTree_130 (by decide) ?_
            refine r_lv [1, 2, 3, 4, 0] (lv' := [(0, .ref aT), (1, .int v11), (2, .int x2_40), (3, .int r7), (4, .int (x4_82 + (1 : Int32)))]) rfl ?_
            exact hk82 ((x4_82 + (1 : Int32)), T_links_82) (Option.some.inj hm).symm
          · replace hm := iT c15 hm
            refine r_aload_n S dX2_growTree_103 rfl 0 rfl ?_
            refine r_get (T := TX2) (ci := 2) S (tlA inlX2) rfl 0 rfl 13 (Nat.le_of_ble_eq_true rfl) (tl u64) rfl dX2_growTree_104 ?_
            refine r_iload S dX2_growTree_107 4 rfl ?_
            refine r_aload_n S dX2_growTree_109 rfl 0 rfl ?_
            refine r_get (T := TX2) (ci := 2) S (tlA inlX2) rfl 0 rfl 13 (Nat.le_of_ble_eq_true rfl) (tl u64) rfl dX2_growTree_110 ?_
            refine r_iload S dX2_growTree_113 4 rfl ?_
            obtain ⟨v16, h_v16, hm⟩ := bS hm
            refine r_lald S h_v16 3 1 rfl rfl dX2_growTree_115 ?_
            refine r_aload_n S dX2_growTree_116 rfl 0 rfl ?_
            refine r_iload_n S dX2_growTree_117 rfl 3 rfl ?_
            refine r_iload S dX2_growTree_118 4 rfl ?_
            obtain ⟨r17, h_r17, hm⟩ := bS hm
            refine r_calllV S (c_X2_keyOf l0 D0 cI cJ cZ cY F aT aT_points aT_keys aT_aparts aT_roots aT_firsts aT_seconds aT_parts aT_firstSides aT_otherSides aT_joinsAbove aT_pointsAbove aT_pairs aT_links aT_nodes aT_points_xs aT_points_ys aT_points_ws r10.1 T_points_count T_points_xs T_points_ys r7 x4_82 _ h_r17) (gV u191 u192 u193 u14 u194) ok_X2_keyOf ⟨rfl, rfl⟩ ⟨Nat.le_of_ble_eq_true rfl, Nat.le_of_ble_eq_true rfl⟩ [0, 1, 4, 5] [2, 3] rfl (wr := [(aT_keys, .inl (cJ, 24, .inr (.inl r10.2))), (aT_links, .inl (cJ, 24, .inr (.inl T_links_82)))]) rfl rfl rfl (by decide) (ci := 2) (T := TX2) 0 rfl rfl (ws' := [(aT_keys, .inl (cJ, 24, .inr (.inl r10.2))), (aT_links, .inl (cJ, 24, .inr (.inl T_links_82))), (aT, .inr (2, [.ref aT_points, .int r10.1, .ref aT_keys, .ref aT_aparts, .ref aT_roots, .ref aT_firsts, .ref aT_seconds, .ref aT_parts, .ref aT_firstSides, .ref aT_otherSides, .ref aT_joinsAbove, .ref aT_pointsAbove, .ref aT_pairs, .ref aT_links, .ref aT_nodes])), (aT_points, .inr (4, [.int T_points_count, .ref aT_points_xs, .ref aT_points_ys, .ref aT_points_ws])), (aT_points_xs, .inl (cI, 24, .inl T_points_xs)), (aT_points_ys, .inl (cI, 24, .inl T_points_ys))]) rfl (As := [.int r7, .int x4_82]) (rest := [.long v16, .int x4_82, .ref aT_links]) rfl rfl (Nat.le_of_ble_eq_true rfl) dX2_growTree_120 ?_
            refine r_mmin_long S (tl u187) (tl u188) (tl u189) (tl u190) (Nat.le_of_ble_eq_true rfl) (Nat.le_of_ble_eq_true rfl) dX2_growTree_123 ?_
            obtain ⟨v18, h_v18, hm⟩ := bS hm
            refine r_topL h_v18 ?_
            obtain ⟨g19, h_g19, hm⟩ := bS hm
            refine r_last S h_g19 1 1 rfl rfl (ws' := [(aT_keys, .inl (cJ, 24, .inr (.inl r10.2))), (aT_links, .inl (cJ, 24, .inr (.inl g19))), (aT, .inr (2, [.ref aT_points, .int r10.1, .ref aT_keys, .ref aT_aparts, .ref aT_roots, .ref aT_firsts, .ref aT_seconds, .ref aT_parts, .ref aT_firstSides, .ref aT_otherSides, .ref aT_joinsAbove, .ref aT_pointsAbove, .ref aT_pairs, .ref aT_links, .ref aT_nodes])), (aT_points, .inr (4, [.int T_points_count, .ref aT_points_xs, .ref aT_points_ys, .ref aT_points_ws])), (aT_points_xs, .inl (cI, 24, .inl T_points_xs)), (aT_points_ys, .inl (cI, 24, .inl T_points_ys))]) rfl dX2_growTree_126 ?_
            refine r_iincc S dX2_growTree_127 4 rfl (c0 := (1 : Int32)) rfl rfl (Nat.le_of_ble_eq_true rfl) (lv' := [(4, .int (x4_82 + (1 : Int32))), (0, .ref aT), (1, .int v11), (2, .int x2_40), (3, .int r7)]) rfl ?_
            refine r_goto 82 S dX2_growTree_130 (by decide) ?_
            refine r_perm [2, 3, 0, 1, 4, 5] (ws' := [(aT, .inr (2, [.ref aT_points, .int r10.1, .ref aT_keys, .ref aT_aparts, .ref aT_roots, .ref aT_firsts, .ref aT_seconds, .ref aT_parts, .ref aT_firstSides, .ref aT_otherSides, .ref aT_joinsAbove, .ref aT_pointsAbove, .ref aT_pairs, .ref aT_links, .ref aT_nodes])), (aT_points, .inr (4, [.int T_points_count, .ref aT_points_xs, .ref aT_points_ys, .ref aT_points_ws])), (aT_keys, .inl (cJ, 24, .inr (.inl r10.2))), (aT_links, .inl (cJ, 24, .inr (.inl g19))), (aT_points_xs, .inl (cI, 24, .inl T_points_xs)), (aT_points_ys, .inl (cI, 24, .inl T_points_ys))]) rfl rfl ?_
            refine r_lv [1, 2, 3, 4, 0] (lv' := [(0, .ref aT), (1, .int v11), (2, .int x2_40), (3, .int r7), (4, .int (x4_82 + (1 : Int32)))]) rfl ?_
            exact hk82 ((x4_82 + (1 : Int32)), g19) (Option.some.inj hm).symm
      · replace hm := iT c8 hm
        refine r_perm [3, 4, 0, 5, 1, 2] (ws' := [(aT, .inr (2, [.ref aT_points, .int T_count_40, .ref aT_keys, .ref aT_aparts, .ref aT_roots, .ref aT_firsts, .ref aT_seconds, .ref aT_parts, .ref aT_firstSides, .ref aT_otherSides, .ref aT_joinsAbove, .ref aT_pointsAbove, .ref aT_pairs, .ref aT_links, .ref aT_nodes])), (aT_points, .inr (4, [.int T_points_count, .ref aT_points_xs, .ref aT_points_ys, .ref aT_points_ws])), (aT_keys, .inl (cJ, 24, .inr (.inl T_keys_40))), (aT_links, .inl (cJ, 24, .inr (.inl T_links_40))), (aT_points_xs, .inl (cI, 24, .inl T_points_xs)), (aT_points_ys, .inl (cI, 24, .inl T_points_ys))]) rfl rfl ?_
        exact hR40 (T_count_40, T_keys_40, T_links_40) _ _ (hr40 _ (Option.some.inj hm).symm) dX2_growTree_62
  refine r_lv [2, 1, 0] (lv' := [(0, .ref aT), (1, .int (1 : Int32)), (2, .int (1 : Int32))]) rfl ?_
  refine loopG (r0 := q1) (Gd := fun s9 => G X 9 [(0, .ref aT), (1, .int (1 : Int32)), (2, .int s9.1)] [] [(aT, .inr (2, [.ref aT_points, .int (0 : Int32), .ref aT_keys, .ref aT_aparts, .ref aT_roots, .ref aT_firsts, .ref aT_seconds, .ref aT_parts, .ref aT_firstSides, .ref aT_otherSides, .ref aT_joinsAbove, .ref aT_pointsAbove, .ref aT_pairs, .ref aT_links, .ref aT_nodes])), (aT_points, .inr (4, [.int T_points_count, .ref aT_points_xs, .ref aT_points_ys, .ref aT_points_ws])), (aT_keys, .inl (cJ, 24, .inr (.inl T_keys))), (aT_links, .inl (cJ, 24, .inr (.inl s9.2))), (aT_points_xs, .inl (cI, 24, .inl T_points_xs)), (aT_points_ys, .inl (cI, 24, .inl T_points_ys))]) ?_ _ _ hl9
  rintro ⟨x2_9, T_links_9⟩ b9 hm hk9 hr9
  replace hm : mX2_growTree_b9 F T_points_count T_points_xs T_points_ys x2_9 T_links_9 = some b9 := hm
  unfold mX2_growTree_b9 at hm
  show G X 9 [(0, .ref aT), (1, .int (1 : Int32)), (2, .int x2_9)] [] [(aT, .inr (2, [.ref aT_points, .int (0 : Int32), .ref aT_keys, .ref aT_aparts, .ref aT_roots, .ref aT_firsts, .ref aT_seconds, .ref aT_parts, .ref aT_firstSides, .ref aT_otherSides, .ref aT_joinsAbove, .ref aT_pointsAbove, .ref aT_pairs, .ref aT_links, .ref aT_nodes])), (aT_points, .inr (4, [.int T_points_count, .ref aT_points_xs, .ref aT_points_ys, .ref aT_points_ws])), (aT_keys, .inl (cJ, 24, .inr (.inl T_keys))), (aT_links, .inl (cJ, 24, .inr (.inl T_links_9))), (aT_points_xs, .inl (cI, 24, .inl T_points_xs)), (aT_points_ys, .inl (cI, 24, .inl T_points_ys))]
  refine r_iload_n S dX2_growTree_9 rfl 2 rfl ?_
  refine r_aload_n S dX2_growTree_10 rfl 0 rfl ?_
  refine r_get (T := TX2) (ci := 2) S (tlA inlX2) rfl 0 rfl 0 (Nat.le_of_ble_eq_true rfl) (tl u50) rfl dX2_growTree_11 ?_
  refine r_get (T := TX4) (ci := 4) S (tlA inlX4) rfl 1 rfl 0 (Nat.le_of_ble_eq_true rfl) (tl u182) rfl dX2_growTree_14 ?_
  refine r_icmp_ge 38 S dX2_growTree_17 (by decide) (fun c2 => ?_) (fun c2 => ?_)
  · replace hm := iT c2 hm
    refine r_lv [0, 1] (lv' := [(0, .ref aT), (1, .int (1 : Int32))]) rfl ?_
    exact hE9_38 T_links_9 (hr9 _ (Option.some.inj hm).symm)
  · replace hm := iF c2 hm
    refine r_aload_n S dX2_growTree_20 rfl 0 rfl ?_
    refine r_get (T := TX2) (ci := 2) S (tlA inlX2) rfl 0 rfl 13 (Nat.le_of_ble_eq_true rfl) (tl u64) rfl dX2_growTree_21 ?_
    refine r_iload_n S dX2_growTree_24 rfl 2 rfl ?_
    refine r_aload_n S dX2_growTree_25 rfl 0 rfl ?_
    refine r_iconst (v := (0 : Int32)) S dX2_growTree_26 rfl ?_
    refine r_iload_n S dX2_growTree_27 rfl 2 rfl ?_
    obtain ⟨r3, h_r3, hm⟩ := bS hm
    refine r_calllV S (c_X2_keyOf l0 D0 cI cJ cZ cY F aT aT_points aT_keys aT_aparts aT_roots aT_firsts aT_seconds aT_parts aT_firstSides aT_otherSides aT_joinsAbove aT_pointsAbove aT_pairs aT_links aT_nodes aT_points_xs aT_points_ys aT_points_ws (0 : Int32) T_points_count T_points_xs T_points_ys (0 : Int32) x2_9 _ h_r3) (gV u191 u192 u193 u14 u194) ok_X2_keyOf ⟨rfl, rfl⟩ ⟨Nat.le_of_ble_eq_true rfl, Nat.le_of_ble_eq_true rfl⟩ [0, 1, 4, 5] [2, 3] rfl (wr := [(aT_keys, .inl (cJ, 24, .inr (.inl T_keys))), (aT_links, .inl (cJ, 24, .inr (.inl T_links_9)))]) rfl rfl rfl (by decide) (ci := 2) (T := TX2) 0 rfl rfl (ws' := [(aT_keys, .inl (cJ, 24, .inr (.inl T_keys))), (aT_links, .inl (cJ, 24, .inr (.inl T_links_9))), (aT, .inr (2, [.ref aT_points, .int (0 : Int32), .ref aT_keys, .ref aT_aparts, .ref aT_roots, .ref aT_firsts, .ref aT_seconds, .ref aT_parts, .ref aT_firstSides, .ref aT_otherSides, .ref aT_joinsAbove, .ref aT_pointsAbove, .ref aT_pairs, .ref aT_links, .ref aT_nodes])), (aT_points, .inr (4, [.int T_points_count, .ref aT_points_xs, .ref aT_points_ys, .ref aT_points_ws])), (aT_points_xs, .inl (cI, 24, .inl T_points_xs)), (aT_points_ys, .inl (cI, 24, .inl T_points_ys))]) rfl (As := [.int (0 : Int32), .int x2_9]) (rest := [.int x2_9, .ref aT_links]) rfl rfl (Nat.le_of_ble_eq_true rfl) dX2_growTree_28 ?_
    obtain ⟨g4, h_g4, hm⟩ := bS hm
    refine r_last S h_g4 1 1 rfl rfl (ws' := [(aT_keys, .inl (cJ, 24, .inr (.inl T_keys))), (aT_links, .inl (cJ, 24, .inr (.inl g4))), (aT, .inr (2, [.ref aT_points, .int (0 : Int32), .ref aT_keys, .ref aT_aparts, .ref aT_roots, .ref aT_firsts, .ref aT_seconds, .ref aT_parts, .ref aT_firstSides, .ref aT_otherSides, .ref aT_joinsAbove, .ref aT_pointsAbove, .ref aT_pairs, .ref aT_links, .ref aT_nodes])), (aT_points, .inr (4, [.int T_points_count, .ref aT_points_xs, .ref aT_points_ys, .ref aT_points_ws])), (aT_points_xs, .inl (cI, 24, .inl T_points_xs)), (aT_points_ys, .inl (cI, 24, .inl T_points_ys))]) rfl dX2_growTree_31 ?_
    refine r_iincc S dX2_growTree_32 2 rfl (c0 := (1 : Int32)) rfl rfl (Nat.le_of_ble_eq_true rfl) (lv' := [(2, .int (x2_9 + (1 : Int32))), (0, .ref aT), (1, .int (1 : Int32))]) rfl ?_
    refine r_goto 9 S dX2_growTree_35 (by decide) ?_
    refine r_perm [2, 3, 0, 1, 4, 5] (ws' := [(aT, .inr (2, [.ref aT_points, .int (0 : Int32), .ref aT_keys, .ref aT_aparts, .ref aT_roots, .ref aT_firsts, .ref aT_seconds, .ref aT_parts, .ref aT_firstSides, .ref aT_otherSides, .ref aT_joinsAbove, .ref aT_pointsAbove, .ref aT_pairs, .ref aT_links, .ref aT_nodes])), (aT_points, .inr (4, [.int T_points_count, .ref aT_points_xs, .ref aT_points_ys, .ref aT_points_ws])), (aT_keys, .inl (cJ, 24, .inr (.inl T_keys))), (aT_links, .inl (cJ, 24, .inr (.inl g4))), (aT_points_xs, .inl (cI, 24, .inl T_points_xs)), (aT_points_ys, .inl (cI, 24, .inl T_points_ys))]) rfl rfl ?_
    refine r_lv [1, 2, 0] (lv' := [(0, .ref aT), (1, .int (1 : Int32)), (2, .int (x2_9 + (1 : Int32)))]) rfl ?_
    exact hk9 ((x2_9 + (1 : Int32)), g4) (Option.some.inj hm).symm
def wtX6_root : List Cond := Cond.code yX6_root cX6_root 4 (some .int) :: wsL_law
theorem ok_X6_root : CallOK yX6_root wtX6_root RX6 1 4 := ⟨⟨_, _, _, rfl⟩, rfl, ⟨by decide +kernel, by decide +kernel⟩, by decide +kernel⟩
set_option maxRecDepth 100000 in
set_option maxHeartbeats 4000000 in
theorem c_X6_root (l0 : Launch) (D0 : va_G) (cI cJ cZ cY : ClassId) (F : Nat) (x0 : Int32) (res : Int32) (hm : mX6_root F x0 = some res) : Ci D0 [(cI, .int), (cJ, .long), (cZ, .boolean), (cY, .array .int)] l0 yX6_root wtX6_root ({ frames := 0, cells := 0, slots := 0, locals := 0 }) [.int x0] (res) [] [] := by
  refine Ci.ofi cX6_root 4 (own := RX6) (by decide +kernel) rfl rfl (Nat.le_of_ble_eq_true rfl) ?_
  intro X S hR0
  have hR : ∀ (r9 : Int32) (pc : Nat) (lv : List (Nat × Value)), some r9 = some res → decode cX6_root pc = .ok (.ireturn, 1) → G X pc lv [.int (r9)] [] := fun r9 pc lv h9 hd => by cases h9; exact hR0 pc lv hd
  show G X 0 [(0, .int x0)] [] []
  unfold mX6_root at hm
  refine r_iconst (v := (0 : Int32)) S dX6_root_0 rfl ?_
  refine r_istore_n S dX6_root_1 rfl (Nat.le_of_ble_eq_true rfl) (lv' := [(1, .int (0 : Int32)), (0, .int x0)]) rfl ?_
  refine r_bipush (v := (10 : Int32)) S dX6_root_2 rfl ?_
  refine r_istore_n S dX6_root_4 rfl (Nat.le_of_ble_eq_true rfl) (lv' := [(2, .int (10 : Int32)), (1, .int (0 : Int32)), (0, .int x0)]) rfl ?_
  have hR5 : ∀ (r9 : Int32) (pc : Nat) (lv : List (Nat × Value)), r9 = res → decode cX6_root pc = .ok (.ireturn, 1) → G X pc lv [.int (r9)] [] := fun r9 pc lv h9 hd => hR r9 pc lv (congrArg some h9) hd
  refine r_lv [2, 1, 0] (lv' := [(0, .int x0), (1, .int (0 : Int32)), (2, .int (10 : Int32))]) rfl ?_
  refine loopG (r0 := res) (Gd := fun s9 => G X 5 [(0, .int x0), (1, .int s9.1), (2, .int s9.2)] [] []) ?_ _ _ hm
  rintro ⟨x1_5, x2_5⟩ b5 hm hk5 hr5
  replace hm : mX6_root_b5 F x0 x1_5 x2_5 = some b5 := hm
  unfold mX6_root_b5 at hm
  show G X 5 [(0, .int x0), (1, .int x1_5), (2, .int x2_5)] [] []
  refine r_iload_n S dX6_root_5 rfl 2 rfl ?_
  refine r_if_lt 30 S dX6_root_6 (by decide) (fun c2 => ?_) (fun c2 => ?_)
  · replace hm := iT c2 hm
    refine r_iload_n S dX6_root_30 rfl 1 rfl ?_
    exact hR5 x1_5 _ _ (hr5 _ (Option.some.inj hm).symm) dX6_root_31
  · replace hm := iF c2 hm
    refine r_iload_n S dX6_root_9 rfl 1 rfl ?_
    refine r_iconst (v := (1 : Int32)) S dX6_root_10 rfl ?_
    refine r_iload_n S dX6_root_11 rfl 2 rfl ?_
    refine r_ishl S dX6_root_12 ?_
    refine r_iadd S dX6_root_13 ?_
    obtain ⟨v3, h_v3, hm⟩ := bS hm
    refine r_topI h_v3 ?_
    refine r_istore_n S dX6_root_14 rfl (Nat.le_of_ble_eq_true rfl) (lv' := [(3, .int v3), (0, .int x0), (1, .int x1_5), (2, .int x2_5)]) rfl ?_
    refine r_iload_n S dX6_root_15 rfl 0 rfl ?_
    refine r_iload_n S dX6_root_16 rfl 0 rfl ?_
    refine r_imul S dX6_root_17 ?_
    refine r_iload_n S dX6_root_18 rfl 1 rfl ?_
    refine r_icmp_gt 24 S dX6_root_19 (by decide) (fun c4 => ?_) (fun c4 => ?_)
    · replace hm := iT c4 hm
      refine r_iincc S dX6_root_24 3 rfl (c0 := (-1 : Int32)) rfl rfl (Nat.le_of_ble_eq_true rfl) (lv' := [(2, .int (x2_5 + (-1 : Int32))), (3, .int v3), (0, .int x0), (1, .int x1_5)]) rfl ?_
      refine r_goto 5 S dX6_root_27 (by decide) ?_
      refine r_lv [2, 3, 0] (lv' := [(0, .int x0), (1, .int x1_5), (2, .int (x2_5 + (-1 : Int32)))]) rfl ?_
      exact hk5 (x1_5, (x2_5 + (-1 : Int32))) (Option.some.inj hm).symm
    · replace hm := iF c4 hm
      refine r_iload_n S dX6_root_22 rfl 0 rfl ?_
      refine r_istore_n S dX6_root_23 rfl (Nat.le_of_ble_eq_true rfl) (lv' := [(1, .int v3), (3, .int v3), (0, .int x0), (2, .int x2_5)]) rfl ?_
      refine r_iincc S dX6_root_24 3 rfl (c0 := (-1 : Int32)) rfl rfl (Nat.le_of_ble_eq_true rfl) (lv' := [(2, .int (x2_5 + (-1 : Int32))), (1, .int v3), (3, .int v3), (0, .int x0)]) rfl ?_
      refine r_goto 5 S dX6_root_27 (by decide) ?_
      refine r_lv [3, 1, 0] (lv' := [(0, .int x0), (1, .int v3), (2, .int (x2_5 + (-1 : Int32)))]) rfl ?_
      exact hk5 (v3, (x2_5 + (-1 : Int32))) (Option.some.inj hm).symm
def wtX2_placeOf : List Cond := Cond.code yX2_placeOf cX2_placeOf 2 (some .long) :: wsL_law
theorem ok_X2_placeOf : CallOK yX2_placeOf wtX2_placeOf RX2 1 2 := ⟨⟨_, _, _, rfl⟩, rfl, ⟨by decide +kernel, by decide +kernel⟩, by decide +kernel⟩
set_option maxRecDepth 100000 in
set_option maxHeartbeats 4000000 in
theorem c_X2_placeOf (l0 : Launch) (D0 : va_G) (cI cJ cZ cY : ClassId) (F : Nat) (aT aT_points aT_keys aT_aparts aT_roots aT_firsts aT_seconds aT_parts aT_firstSides aT_otherSides aT_joinsAbove aT_pointsAbove aT_pairs aT_links aT_nodes aT_points_xs aT_points_ys aT_points_ws : Nat) (T_count : Int32) (T_points_count : Int32) (T_points_xs : Nat → Int32) (T_points_ys : Nat → Int32) (x1 : Int32) (res : Int64) (hm : mX2_placeOf F x1 T_points_xs T_points_ys = some res) : Cl D0 [(cI, .int), (cJ, .long), (cZ, .boolean), (cY, .array .int)] l0 yX2_placeOf wtX2_placeOf ({ frames := 0, cells := 0, slots := 0, locals := 0 }) [.ref aT, .int x1] (res) [(aT, .inr (2, [.ref aT_points, .int T_count, .ref aT_keys, .ref aT_aparts, .ref aT_roots, .ref aT_firsts, .ref aT_seconds, .ref aT_parts, .ref aT_firstSides, .ref aT_otherSides, .ref aT_joinsAbove, .ref aT_pointsAbove, .ref aT_pairs, .ref aT_links, .ref aT_nodes])), (aT_points, .inr (4, [.int T_points_count, .ref aT_points_xs, .ref aT_points_ys, .ref aT_points_ws])), (aT_points_xs, .inl (cI, 24, .inl T_points_xs)), (aT_points_ys, .inl (cI, 24, .inl T_points_ys))] [(aT, .inr (2, [.ref aT_points, .int T_count, .ref aT_keys, .ref aT_aparts, .ref aT_roots, .ref aT_firsts, .ref aT_seconds, .ref aT_parts, .ref aT_firstSides, .ref aT_otherSides, .ref aT_joinsAbove, .ref aT_pointsAbove, .ref aT_pairs, .ref aT_links, .ref aT_nodes])), (aT_points, .inr (4, [.int T_points_count, .ref aT_points_xs, .ref aT_points_ys, .ref aT_points_ws])), (aT_points_xs, .inl (cI, 24, .inl T_points_xs)), (aT_points_ys, .inl (cI, 24, .inl T_points_ys))] := by
  refine Cl.ofl cX2_placeOf 2 (own := RX2) (by decide +kernel) rfl rfl (Nat.le_of_ble_eq_true rfl) ?_
  intro X S hR0
  have hR : ∀ (r9 : Int64) (pc : Nat) (lv : List (Nat × Value)), some r9 = some res → decode cX2_placeOf pc = .ok (.lreturn, 1) → G X pc lv [.long (r9)] [(aT, .inr (2, [.ref aT_points, .int T_count, .ref aT_keys, .ref aT_aparts, .ref aT_roots, .ref aT_firsts, .ref aT_seconds, .ref aT_parts, .ref aT_firstSides, .ref aT_otherSides, .ref aT_joinsAbove, .ref aT_pointsAbove, .ref aT_pairs, .ref aT_links, .ref aT_nodes])), (aT_points, .inr (4, [.int T_points_count, .ref aT_points_xs, .ref aT_points_ys, .ref aT_points_ws])), (aT_points_xs, .inl (cI, 24, .inl T_points_xs)), (aT_points_ys, .inl (cI, 24, .inl T_points_ys))] := fun r9 pc lv h9 hd => by cases h9; exact hR0 pc lv hd
  show G X 0 [(0, .ref aT), (1, .int x1)] [] [(aT, .inr (2, [.ref aT_points, .int T_count, .ref aT_keys, .ref aT_aparts, .ref aT_roots, .ref aT_firsts, .ref aT_seconds, .ref aT_parts, .ref aT_firstSides, .ref aT_otherSides, .ref aT_joinsAbove, .ref aT_pointsAbove, .ref aT_pairs, .ref aT_links, .ref aT_nodes])), (aT_points, .inr (4, [.int T_points_count, .ref aT_points_xs, .ref aT_points_ys, .ref aT_points_ws])), (aT_points_xs, .inl (cI, 24, .inl T_points_xs)), (aT_points_ys, .inl (cI, 24, .inl T_points_ys))]
  unfold mX2_placeOf at hm
  refine r_aload_n S dX2_placeOf_0 rfl 0 rfl ?_
  refine r_get (T := TX2) (ci := 2) S (tlA inlX2) rfl 0 rfl 0 (Nat.le_of_ble_eq_true rfl) (tl u50) rfl dX2_placeOf_1 ?_
  refine r_get (T := TX4) (ci := 4) S (tlA inlX4) rfl 1 rfl 1 (Nat.le_of_ble_eq_true rfl) (tl u233) rfl dX2_placeOf_4 ?_
  refine r_iload_n S dX2_placeOf_7 rfl 1 rfl ?_
  obtain ⟨v1, h_v1, hm⟩ := bS hm
  refine r_iald S h_v1 2 0 rfl rfl dX2_placeOf_8 ?_
  refine r_i2l S dX2_placeOf_9 ?_
  refine r_bipush (v := (10 : Int32)) S dX2_placeOf_10 rfl ?_
  refine r_lshl S dX2_placeOf_12 ?_
  refine r_aload_n S dX2_placeOf_13 rfl 0 rfl ?_
  refine r_get (T := TX2) (ci := 2) S (tlA inlX2) rfl 0 rfl 0 (Nat.le_of_ble_eq_true rfl) (tl u50) rfl dX2_placeOf_14 ?_
  refine r_get (T := TX4) (ci := 4) S (tlA inlX4) rfl 1 rfl 2 (Nat.le_of_ble_eq_true rfl) (tl u234) rfl dX2_placeOf_17 ?_
  refine r_iload_n S dX2_placeOf_20 rfl 1 rfl ?_
  obtain ⟨v2, h_v2, hm⟩ := bS hm
  refine r_iald S h_v2 3 0 rfl rfl dX2_placeOf_21 ?_
  refine r_i2l S dX2_placeOf_22 ?_
  refine r_lor S dX2_placeOf_23 ?_
  exact hR (((v1).toInt64 <<< (((10 : Int32)).toInt64 &&& 63)) ||| (v2).toInt64) _ _ hm dX2_placeOf_24
def wtX2_putBelow : List Cond := Cond.code yX2_putBelow cX2_putBelow 4 none :: wsL_law
theorem ok_X2_putBelow : CallOK yX2_putBelow wtX2_putBelow RX2 2 4 := ⟨⟨_, _, _, rfl⟩, rfl, ⟨by decide +kernel, by decide +kernel⟩, by decide +kernel⟩
set_option maxRecDepth 100000 in
set_option maxHeartbeats 4000000 in
theorem c_X2_putBelow (l0 : Launch) (D0 : va_G) (cI cJ cZ cY : ClassId) (F : Nat) (aT aT_points aT_keys aT_aparts aT_roots aT_firsts aT_seconds aT_parts aT_firstSides aT_otherSides aT_joinsAbove aT_pointsAbove aT_pairs aT_links aT_nodes : Nat) (T_count : Int32) (T_joinsAbove : Nat → Int32) (T_pointsAbove : Nat → Int32) (x1 : Int32) (x2 : Int32) (res : (Nat → Int32) × (Nat → Int32)) (hm : mX2_putBelow F x1 x2 T_joinsAbove T_pointsAbove = some res) : Cv D0 [(cI, .int), (cJ, .long), (cZ, .boolean), (cY, .array .int)] l0 yX2_putBelow wtX2_putBelow ({ frames := 1, cells := 0, slots := 0, locals := 20 }) [.ref aT, .int x1, .int x2] [(aT, .inr (2, [.ref aT_points, .int T_count, .ref aT_keys, .ref aT_aparts, .ref aT_roots, .ref aT_firsts, .ref aT_seconds, .ref aT_parts, .ref aT_firstSides, .ref aT_otherSides, .ref aT_joinsAbove, .ref aT_pointsAbove, .ref aT_pairs, .ref aT_links, .ref aT_nodes])), (aT_joinsAbove, .inl (cI, 24, .inl T_joinsAbove)), (aT_pointsAbove, .inl (cI, 24, .inl T_pointsAbove))] [(aT, .inr (2, [.ref aT_points, .int T_count, .ref aT_keys, .ref aT_aparts, .ref aT_roots, .ref aT_firsts, .ref aT_seconds, .ref aT_parts, .ref aT_firstSides, .ref aT_otherSides, .ref aT_joinsAbove, .ref aT_pointsAbove, .ref aT_pairs, .ref aT_links, .ref aT_nodes])), (aT_joinsAbove, .inl (cI, 24, .inl (res.1))), (aT_pointsAbove, .inl (cI, 24, .inl (res.2)))] := by
  refine Cv.ofv cX2_putBelow 4 (own := RX2) (by decide +kernel) rfl rfl (Nat.le_of_ble_eq_true rfl) ?_
  intro X S hR0
  have hR : ∀ (r9 : (Nat → Int32) × (Nat → Int32)) (pc : Nat) (lv : List (Nat × Value)), some r9 = some res → decode cX2_putBelow pc = .ok (.return_, 1) → G X pc lv [] [(aT, .inr (2, [.ref aT_points, .int T_count, .ref aT_keys, .ref aT_aparts, .ref aT_roots, .ref aT_firsts, .ref aT_seconds, .ref aT_parts, .ref aT_firstSides, .ref aT_otherSides, .ref aT_joinsAbove, .ref aT_pointsAbove, .ref aT_pairs, .ref aT_links, .ref aT_nodes])), (aT_joinsAbove, .inl (cI, 24, .inl (r9.1))), (aT_pointsAbove, .inl (cI, 24, .inl (r9.2)))] := fun r9 pc lv h9 hd => by cases h9; exact hR0 pc lv hd
  show G X 0 [(0, .ref aT), (1, .int x1), (2, .int x2)] [] [(aT, .inr (2, [.ref aT_points, .int T_count, .ref aT_keys, .ref aT_aparts, .ref aT_roots, .ref aT_firsts, .ref aT_seconds, .ref aT_parts, .ref aT_firstSides, .ref aT_otherSides, .ref aT_joinsAbove, .ref aT_pointsAbove, .ref aT_pairs, .ref aT_links, .ref aT_nodes])), (aT_joinsAbove, .inl (cI, 24, .inl T_joinsAbove)), (aT_pointsAbove, .inl (cI, 24, .inl T_pointsAbove))]
  unfold mX2_putBelow at hm
  refine r_iload_n S dX2_putBelow_0 rfl 1 rfl ?_
  obtain ⟨r1, h_r1, hm⟩ := bS hm
  refine r_calliS S (c_X2_joinOf l0 D0 cI cJ cZ cY F x1 _ h_r1) (gS u239 u240 u14 u241) ok_X2_joinOf ⟨rfl, rfl⟩ ⟨Nat.le_of_ble_eq_true rfl, Nat.le_of_ble_eq_true rfl⟩ [] [0, 1, 2] rfl (wr := [(aT, .inr (2, [.ref aT_points, .int T_count, .ref aT_keys, .ref aT_aparts, .ref aT_roots, .ref aT_firsts, .ref aT_seconds, .ref aT_parts, .ref aT_firstSides, .ref aT_otherSides, .ref aT_joinsAbove, .ref aT_pointsAbove, .ref aT_pairs, .ref aT_links, .ref aT_nodes])), (aT_joinsAbove, .inl (cI, 24, .inl T_joinsAbove)), (aT_pointsAbove, .inl (cI, 24, .inl T_pointsAbove))]) rfl rfl rfl (by decide) (ws' := [(aT, .inr (2, [.ref aT_points, .int T_count, .ref aT_keys, .ref aT_aparts, .ref aT_roots, .ref aT_firsts, .ref aT_seconds, .ref aT_parts, .ref aT_firstSides, .ref aT_otherSides, .ref aT_joinsAbove, .ref aT_pointsAbove, .ref aT_pairs, .ref aT_links, .ref aT_nodes])), (aT_joinsAbove, .inl (cI, 24, .inl T_joinsAbove)), (aT_pointsAbove, .inl (cI, 24, .inl T_pointsAbove))]) rfl (As := [.int x1]) (rest := []) rfl rfl (Nat.le_of_ble_eq_true rfl) dX2_putBelow_1 ?_
  refine r_istore_n S dX2_putBelow_4 rfl (Nat.le_of_ble_eq_true rfl) (lv' := [(3, .int r1), (0, .ref aT), (1, .int x1), (2, .int x2)]) rfl ?_
  refine r_iload_n S dX2_putBelow_5 rfl 0 rfl ?_
  refine r_iconst (v := (-1 : Int32)) S dX2_putBelow_6 rfl ?_
  refine r_icmp_eq 20 S dX2_putBelow_7 (by decide) (fun c2 => ?_) (fun c2 => ?_)
  · replace hm := iT c2 hm
    refine r_iload_n S dX2_putBelow_20 rfl 2 rfl ?_
    refine r_if_lt 37 S dX2_putBelow_21 (by decide) (fun c3 => ?_) (fun c3 => ?_)
    · replace hm := iT c3 hm
      exact hR (T_joinsAbove, T_pointsAbove) _ _ hm dX2_putBelow_37
    · replace hm := iF c3 hm
      refine r_iload_n S dX2_putBelow_24 rfl 2 rfl ?_
      refine r_bipush (v := (24 : Int32)) S dX2_putBelow_25 rfl ?_
      refine r_icmp_ge 37 S dX2_putBelow_27 (by decide) (fun c4 => ?_) (fun c4 => ?_)
      · replace hm := iT c4 hm
        exact hR (T_joinsAbove, T_pointsAbove) _ _ hm dX2_putBelow_37
      · replace hm := iF c4 hm
        refine r_aload_n S dX2_putBelow_30 rfl 1 rfl ?_
        refine r_get (T := TX2) (ci := 2) S (tlA inlX2) rfl 0 rfl 11 (Nat.le_of_ble_eq_true rfl) (tl u62) rfl dX2_putBelow_31 ?_
        refine r_iload_n S dX2_putBelow_34 rfl 2 rfl ?_
        refine r_iload_n S dX2_putBelow_35 rfl 3 rfl ?_
        obtain ⟨g5, h_g5, hm⟩ := bS hm
        refine r_iast S h_g5 2 0 rfl rfl (ws' := [(aT, .inr (2, [.ref aT_points, .int T_count, .ref aT_keys, .ref aT_aparts, .ref aT_roots, .ref aT_firsts, .ref aT_seconds, .ref aT_parts, .ref aT_firstSides, .ref aT_otherSides, .ref aT_joinsAbove, .ref aT_pointsAbove, .ref aT_pairs, .ref aT_links, .ref aT_nodes])), (aT_joinsAbove, .inl (cI, 24, .inl T_joinsAbove)), (aT_pointsAbove, .inl (cI, 24, .inl g5))]) rfl dX2_putBelow_36 ?_
        exact hR (T_joinsAbove, g5) _ _ hm dX2_putBelow_37
  · replace hm := iF c2 hm
    refine r_aload_n S dX2_putBelow_10 rfl 1 rfl ?_
    refine r_get (T := TX2) (ci := 2) S (tlA inlX2) rfl 0 rfl 10 (Nat.le_of_ble_eq_true rfl) (tl u61) rfl dX2_putBelow_11 ?_
    refine r_iload_n S dX2_putBelow_14 rfl 0 rfl ?_
    refine r_iload_n S dX2_putBelow_15 rfl 3 rfl ?_
    obtain ⟨g6, h_g6, hm⟩ := bS hm
    refine r_iast S h_g6 1 0 rfl rfl (ws' := [(aT, .inr (2, [.ref aT_points, .int T_count, .ref aT_keys, .ref aT_aparts, .ref aT_roots, .ref aT_firsts, .ref aT_seconds, .ref aT_parts, .ref aT_firstSides, .ref aT_otherSides, .ref aT_joinsAbove, .ref aT_pointsAbove, .ref aT_pairs, .ref aT_links, .ref aT_nodes])), (aT_joinsAbove, .inl (cI, 24, .inl g6)), (aT_pointsAbove, .inl (cI, 24, .inl T_pointsAbove))]) rfl dX2_putBelow_16 ?_
    refine r_goto 37 S dX2_putBelow_17 (by decide) ?_
    exact hR (g6, T_pointsAbove) _ _ hm dX2_putBelow_37
