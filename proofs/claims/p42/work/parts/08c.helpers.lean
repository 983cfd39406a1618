theorem u111 : Cond.methodLink RL 29 yL_many ∈ wsL_law := in_wsL_law_r5 _ (List.mem_of_getElem? (i := 15) rfl)
theorem u112 : Cond.static yL_many ∈ wsL_law := in_wsL_law_r5 _ (List.mem_of_getElem? (i := 16) rfl)
theorem u113 : Cond.initialized RL ∈ wsL_law := in_wsL_law_r5 _ (List.mem_of_getElem? (i := 17) rfl)
theorem u114 : Cond.code yL_many cL_many 1 (some .int) ∈ wsL_law := in_wsL_law_r5 _ (List.mem_of_getElem? (i := 18) rfl)
theorem u115 : Cond.methodLink RL 9 yL_cell ∈ wsL_law := in_wsL_law_r5 _ (List.mem_of_getElem? (i := 19) rfl)
theorem u116 : Cond.static yL_cell ∈ wsL_law := in_wsL_law_r5 _ (List.mem_of_getElem? (i := 20) rfl)
theorem u117 : Cond.code yL_cell cL_cell 2 (some .int) ∈ wsL_law := in_wsL_law_r5 _ (List.mem_of_getElem? (i := 21) rfl)
theorem u118 : Cond.constant RL 7 (1181783497) ∈ wsL_law := in_wsL_law_r5 _ (List.mem_of_getElem? (i := 22) rfl)
theorem u119 : Cond.methodLink RL 15 yL_between ∈ wsL_law := in_wsL_law_r5 _ (List.mem_of_getElem? (i := 23) rfl)
theorem u120 : Cond.static yL_between ∈ wsL_law := in_wsL_law_r6 _ (List.mem_of_getElem? (i := 0) rfl)
theorem u121 : Cond.code yL_between cL_between 3 (some .int) ∈ wsL_law := in_wsL_law_r6 _ (List.mem_of_getElem? (i := 1) rfl)
theorem u122 : Cond.constant RL 8 (2147483647) ∈ wsL_law := in_wsL_law_r6 _ (List.mem_of_getElem? (i := 2) rfl)
theorem u123 : Cond.methodLink RL 33 yL_comes ∈ wsL_law := in_wsL_law_r6 _ (List.mem_of_getElem? (i := 3) rfl)
theorem u124 : Cond.static yL_comes ∈ wsL_law := in_wsL_law_r6 _ (List.mem_of_getElem? (i := 4) rfl)
theorem u125 : Cond.code yL_comes cL_comes 3 none ∈ wsL_law := in_wsL_law_r6 _ (List.mem_of_getElem? (i := 5) rfl)
theorem u126 : Cond.methodLink RL 19 yL_place ∈ wsL_law := in_wsL_law_r6 _ (List.mem_of_getElem? (i := 6) rfl)
theorem u127 : Cond.static yL_place ∈ wsL_law := in_wsL_law_r6 _ (List.mem_of_getElem? (i := 7) rfl)
theorem u128 : Cond.code yL_place cL_place 5 (some .int) ∈ wsL_law := in_wsL_law_r6 _ (List.mem_of_getElem? (i := 8) rfl)
theorem u129 : Cond.methodLink RL 23 yX8_add ∈ wsL_law := in_wsL_law_r6 _ (List.mem_of_getElem? (i := 9) rfl)
theorem u130 : Cond.instanceMethod yX8_add ∈ wsL_law := in_wsL_law_r6 _ (List.mem_of_getElem? (i := 10) rfl)
theorem u131 : Cond.selects RX8 yX8_add yX8_add ∈ wsL_law := in_wsL_law_r6 _ (List.mem_of_getElem? (i := 11) rfl)
theorem u132 : Cond.code yX8_add cX8_add 4 (some .int) ∈ wsL_law := in_wsL_law_r6 _ (List.mem_of_getElem? (i := 12) rfl)
theorem u237 : Cond.methodLink RL 37 yX8_look ∈ wsL_law := in_wsL_law_r10 _ (List.mem_of_getElem? (i := 21) rfl)
theorem u238 : Cond.instanceMethod yX8_look ∈ wsL_law := in_wsL_law_r10 _ (List.mem_of_getElem? (i := 22) rfl)
theorem u239 : Cond.selects RX8 yX8_look yX8_look ∈ wsL_law := in_wsL_law_r10 _ (List.mem_of_getElem? (i := 23) rfl)
theorem u240 : Cond.code yX8_look cX8_look 3 (some .int) ∈ wsL_law := in_wsL_law_r11 _ (List.mem_of_getElem? (i := 0) rfl)
theorem u287 : Cond.methodLink RL 41 yX8_point ∈ wsL_law := in_wsL_law_r12 _ (List.mem_of_getElem? (i := 23) rfl)
theorem u288 : Cond.instanceMethod yX8_point ∈ wsL_law := in_wsL_law_r13 _ (List.mem_of_getElem? (i := 0) rfl)
theorem u289 : Cond.selects RX8 yX8_point yX8_point ∈ wsL_law := in_wsL_law_r13 _ (List.mem_of_getElem? (i := 1) rfl)
theorem u290 : Cond.code yX8_point cX8_point 4 (some .int) ∈ wsL_law := in_wsL_law_r13 _ (List.mem_of_getElem? (i := 2) rfl)
theorem u308 : Cond.methodLink RL 45 yX8_at ∈ wsL_law := in_wsL_law_r13 _ (List.mem_of_getElem? (i := 20) rfl)
theorem u309 : Cond.instanceMethod yX8_at ∈ wsL_law := in_wsL_law_r13 _ (List.mem_of_getElem? (i := 21) rfl)
theorem u310 : Cond.selects RX8 yX8_at yX8_at ∈ wsL_law := in_wsL_law_r13 _ (List.mem_of_getElem? (i := 22) rfl)
theorem u311 : Cond.code yX8_at cX8_at 3 (some .int) ∈ wsL_law := in_wsL_law_r13 _ (List.mem_of_getElem? (i := 23) rfl)
theorem u313 : Cond.methodLink RL 48 yX8_take ∈ wsL_law := in_wsL_law_r14 _ (List.mem_of_getElem? (i := 1) rfl)
theorem u314 : Cond.instanceMethod yX8_take ∈ wsL_law := in_wsL_law_r14 _ (List.mem_of_getElem? (i := 2) rfl)
theorem u315 : Cond.selects RX8 yX8_take yX8_take ∈ wsL_law := in_wsL_law_r14 _ (List.mem_of_getElem? (i := 3) rfl)
theorem u316 : Cond.code yX8_take cX8_take 2 (some .int) ∈ wsL_law := in_wsL_law_r14 _ (List.mem_of_getElem? (i := 4) rfl)
theorem u321 : Cond.methodLink RL 51 yX8_join ∈ wsL_law := in_wsL_law_r14 _ (List.mem_of_getElem? (i := 9) rfl)
theorem u322 : Cond.instanceMethod yX8_join ∈ wsL_law := in_wsL_law_r14 _ (List.mem_of_getElem? (i := 10) rfl)
theorem u323 : Cond.selects RX8 yX8_join yX8_join ∈ wsL_law := in_wsL_law_r14 _ (List.mem_of_getElem? (i := 11) rfl)
theorem u324 : Cond.code yX8_join cX8_join 3 (some .int) ∈ wsL_law := in_wsL_law_r14 _ (List.mem_of_getElem? (i := 12) rfl)
theorem u351 : Cond.methodLink RL 54 yX8_groups ∈ wsL_law := in_wsL_law_r15 _ (List.mem_of_getElem? (i := 15) rfl)
theorem u352 : Cond.methodLink RL 57 yX8_group ∈ wsL_law := in_wsL_law_r15 _ (List.mem_of_getElem? (i := 16) rfl)
theorem u353 : Cond.instanceMethod yX8_group ∈ wsL_law := in_wsL_law_r15 _ (List.mem_of_getElem? (i := 17) rfl)
theorem u354 : Cond.selects RX8 yX8_group yX8_group ∈ wsL_law := in_wsL_law_r15 _ (List.mem_of_getElem? (i := 18) rfl)
theorem u355 : Cond.code yX8_group cX8_group 6 (some .int) ∈ wsL_law := in_wsL_law_r15 _ (List.mem_of_getElem? (i := 19) rfl)
theorem u415 : Cond.methodLink RL 60 yX8_splits ∈ wsL_law := in_wsL_law_r18 _ (List.mem_of_getElem? (i := 7) rfl)
theorem u416 : Cond.instanceMethod yX8_splits ∈ wsL_law := in_wsL_law_r18 _ (List.mem_of_getElem? (i := 8) rfl)
theorem u417 : Cond.selects RX8 yX8_splits yX8_splits ∈ wsL_law := in_wsL_law_r18 _ (List.mem_of_getElem? (i := 9) rfl)
theorem u418 : Cond.code yX8_splits cX8_splits 4 (some .int) ∈ wsL_law := in_wsL_law_r18 _ (List.mem_of_getElem? (i := 10) rfl)
theorem u420 : Cond.methodLink RL 63 yX8_member ∈ wsL_law := in_wsL_law_r18 _ (List.mem_of_getElem? (i := 12) rfl)
theorem u421 : Cond.instanceMethod yX8_member ∈ wsL_law := in_wsL_law_r18 _ (List.mem_of_getElem? (i := 13) rfl)
theorem u422 : Cond.selects RX8 yX8_member yX8_member ∈ wsL_law := in_wsL_law_r18 _ (List.mem_of_getElem? (i := 14) rfl)
theorem u423 : Cond.code yX8_member cX8_member 4 (some .int) ∈ wsL_law := in_wsL_law_r18 _ (List.mem_of_getElem? (i := 15) rfl)
theorem u424 : Cond.methodLink RL 66 yX8_groupOf ∈ wsL_law := in_wsL_law_r18 _ (List.mem_of_getElem? (i := 16) rfl)
theorem u425 : Cond.instanceMethod yX8_groupOf ∈ wsL_law := in_wsL_law_r18 _ (List.mem_of_getElem? (i := 17) rfl)
theorem u426 : Cond.selects RX8 yX8_groupOf yX8_groupOf ∈ wsL_law := in_wsL_law_r18 _ (List.mem_of_getElem? (i := 18) rfl)
theorem u427 : Cond.code yX8_groupOf cX8_groupOf 3 (some .int) ∈ wsL_law := in_wsL_law_r18 _ (List.mem_of_getElem? (i := 19) rfl)
/-! ===== the law's own methods ===== -/
def wtL_cell : List Cond := Cond.code yL_cell cL_cell 2 (some .int) :: wsL_law
theorem ok_Lcell : CallOK yL_cell wtL_cell RL 2 2 := ⟨⟨_, _, _, rfl⟩, rfl, ⟨by decide +kernel, by decide +kernel⟩, by decide +kernel⟩
def wtL_between : List Cond := Cond.code yL_between cL_between 3 (some .int) :: wsL_law
theorem ok_Lbetween : CallOK yL_between wtL_between RL 3 3 := ⟨⟨_, _, _, rfl⟩, rfl, ⟨by decide +kernel, by decide +kernel⟩, by decide +kernel⟩
def wtL_place : List Cond := Cond.code yL_place cL_place 5 (some .int) :: wsL_law
theorem ok_Lplace : CallOK yL_place wtL_place RL 3 5 := ⟨⟨_, _, _, rfl⟩, rfl, ⟨by decide +kernel, by decide +kernel⟩, by decide +kernel⟩
def wtL_many : List Cond := Cond.code yL_many cL_many 1 (some .int) :: wsL_law
theorem ok_Lmany : CallOK yL_many wtL_many RL 1 1 := ⟨⟨_, _, _, rfl⟩, rfl, ⟨by decide +kernel, by decide +kernel⟩, by decide +kernel⟩
def cellV (L : Nat) (xs : Nat → Int32) (k : Int32) : Int32 := if nI L ≤ k then 1181783497 * k + 829 else xs k.toInt.toNat
def btw (x lo hi : Int32) : Int32 := lo + ((x &&& 2147483647) - (x &&& 2147483647) / (hi - lo + 1) * (hi - lo + 1))
def shV (c z : Int32) : Int32 := if z = 0 then c >>> ((13 : Int32) &&& 31) else c >>> ((3 : Int32) &&& 31)
def plcV (L : Nat) (xs : Nat → Int32) (k z : Int32) : Int32 := if cellV L xs k &&& 3 = 0 then btw (shV (cellV L xs k) z) 0 1023 else if cellV L xs k &&& 3 = 1 then 500 + btw (shV (cellV L xs k) z) 0 30 else 16 * btw (shV (cellV L xs k) z) 0 9
theorem btw_n {x hi : Int32} {d : Nat} (h : hi - 0 + 1 = nI d) (h0 : 0 < d) (hd : d < 2 ^ 31) : ∃ m, m < d ∧ btw x 0 hi = nI m := by
  obtain ⟨j, hj, e⟩ := pk_andE x (m := 2147483647) 31 (by decide +kernel)
  refine ⟨j % d, Nat.mod_lt _ h0, ?_⟩
  unfold btw
  rw [e, h, pk_rem hj h0 hd, Int32.zero_add]
theorem c_cell (l0 : Launch) (D0 : va_G) (cI cJ cZ cY : ClassId) {b L : Nat} {xs : Nat → Int32} (hL : L ≤ 260) {k : Int32} (hk : 0 ≤ k.toInt) : Cix D0 [(cI, .int), (cJ, .long), (cZ, .boolean), (cY, .array .int)] l0 yL_cell wtL_cell ({ frames := 0, cells := 0, slots := 0, locals := 0 } : Room) [.ref b, .int k] (cellV L xs k) b L xs [] [] := by
  refine Cix.ofi cL_cell 2 (own := RL) (by decide +kernel) rfl rfl (Nat.le_of_ble_eq_true rfl) ?_
  intro X S hXs hR
  show G X 0 [(0, .ref b), (1, .int k)] [] []
  refine r_iload_n S dL_cell_0 rfl 1 rfl ?_
  refine r_aload_n S dL_cell_1 rfl 0 rfl ?_
  refine r_slen hXs S dL_cell_2 ?_
  refine r_icmp_ge 12 S dL_cell_3 (by decide) (fun c => ?_) (fun c => ?_)
  · refine r_ldc (v := (1181783497 : Int32)) S (tl u118) dL_cell_12 ?_
    refine r_iload_n S dL_cell_14 rfl 1 rfl ?_
    refine r_imul S dL_cell_15 ?_
    refine r_sipush (v := (829 : Int32)) S dL_cell_16 rfl ?_
    refine r_iadd S dL_cell_19 ?_
    refine r_topI (y := cellV L xs k) (by unfold cellV; rw [if_pos c]) ?_
    exact hR _ _ dL_cell_20
  · refine r_aload_n S dL_cell_6 rfl 0 rfl ?_
    refine r_iload_n S dL_cell_7 rfl 1 rfl ?_
    refine r_sld hXs S (vp_in_iff.mpr ⟨hk, Int.not_le.mp (fun q => c (Int32.le_iff_toInt_le.mpr (by rw [nI_toInt (by omega)]; exact q)))⟩) dL_cell_8 ?_
    refine r_goto 20 S dL_cell_9 (by decide) ?_
    refine r_topI (y := cellV L xs k) (by unfold cellV; rw [if_neg c]) ?_
    exact hR _ _ dL_cell_20
theorem c_between (l0 : Launch) (D0 : va_G) (cI cJ cZ cY : ClassId) {x lo hi : Int32} (hne : ¬ hi - lo + 1 = 0) : Ci D0 [(cI, .int), (cJ, .long), (cZ, .boolean), (cY, .array .int)] l0 yL_between wtL_between ({ frames := 0, cells := 0, slots := 0, locals := 0 } : Room) [.int x, .int lo, .int hi] (btw x lo hi) [] [] := by
  refine Ci.ofi cL_between 3 (own := RL) (by decide +kernel) rfl rfl (Nat.le_of_ble_eq_true rfl) ?_
  intro X S hR
  show G X 0 [(0, .int x), (1, .int lo), (2, .int hi)] [] []
  refine r_iload_n S dL_between_0 rfl 1 rfl ?_
  refine r_iload_n S dL_between_1 rfl 0 rfl ?_
  refine r_ldc (v := (2147483647 : Int32)) S (tl u122) dL_between_2 ?_
  refine r_iand S dL_between_4 ?_
  refine r_iload_n S dL_between_5 rfl 2 rfl ?_
  refine r_iload_n S dL_between_6 rfl 1 rfl ?_
  refine r_isub S dL_between_7 ?_
  refine r_iconst (v := (1 : Int32)) S dL_between_8 rfl ?_
  refine r_iadd S dL_between_9 ?_
  refine r_irem S dL_between_10 hne ?_
  refine r_iadd S dL_between_11 ?_
  refine r_topI (y := btw x lo hi) rfl ?_
  exact hR _ _ dL_between_12
theorem c_place (l0 : Launch) (D0 : va_G) (cI cJ cZ cY : ClassId) {b L : Nat} {xs : Nat → Int32} (hL : L ≤ 260) {k z : Int32} (hk : 0 ≤ k.toInt) : Cix D0 [(cI, .int), (cJ, .long), (cZ, .boolean), (cY, .array .int)] l0 yL_place wtL_place ({ frames := 1, cells := 0, slots := 0, locals := 22 } : Room) [.ref b, .int k, .int z] (plcV L xs k z) b L xs [] [] := by
  refine Cix.ofi cL_place 5 (own := RL) (by decide +kernel) rfl rfl (Nat.le_of_ble_eq_true rfl) ?_
  intro X S hXs hR
  show G X 0 [(0, .ref b), (1, .int k), (2, .int z)] [] []
  refine r_aload_n S dL_place_0 rfl 0 rfl ?_
  refine r_iload_n S dL_place_1 rfl 1 rfl ?_
  refine r_cix S hXs (c_cell l0 D0 cI cJ cZ cY hL hk) (gS u115 u116 u113 u117) ok_Lcell ⟨rfl, rfl⟩ ⟨Nat.le_of_ble_eq_true rfl, Nat.le_of_ble_eq_true rfl⟩ (As := [.ref b, .int k]) (rest := []) rfl rfl (Nat.le_of_ble_eq_true rfl) dL_place_2 ?_
  have tail : G X 20 [(3, .int (cellV L xs k)), (0, .ref b), (1, .int k), (2, .int z)] [.int (shV (cellV L xs k) z)] [] := by
    refine r_istore S dL_place_20 (Nat.le_of_ble_eq_true rfl) (lv' := [(4, .int (shV (cellV L xs k) z)), (3, .int (cellV L xs k)), (0, .ref b), (1, .int k), (2, .int z)]) rfl ?_
    refine r_iload_n S dL_place_22 rfl 1 rfl ?_
    refine r_iconst (v := (3 : Int32)) S dL_place_23 rfl ?_
    refine r_iand S dL_place_24 ?_
    by_cases h0 : cellV L xs k &&& 3 = 0
    · refine r_topI (y := (0 : Int32)) (by rw [h0]) ?_
      refine r_lookup 52 S dL_place_25 (by decide +kernel) rfl (by decide) ?_
      refine r_iload S dL_place_52 0 rfl ?_
      refine r_iconst (v := (0 : Int32)) S dL_place_54 rfl ?_
      refine r_sipush (v := (1023 : Int32)) S dL_place_55 rfl ?_
      refine r_ci0 S (c_between l0 D0 cI cJ cZ cY (by decide +kernel)) (gS u119 u120 u113 u121) ok_Lbetween ⟨rfl, rfl⟩ ⟨Nat.le_of_ble_eq_true rfl, Nat.le_of_ble_eq_true rfl⟩ (As := [.int (shV (cellV L xs k) z), .int 0, .int 1023]) (rest := []) rfl rfl (Nat.le_of_ble_eq_true rfl) dL_place_58 ?_
      refine r_topI (y := plcV L xs k z) (by unfold plcV; rw [if_pos h0]) ?_
      exact hR _ _ dL_place_61
    · have z0 : ¬ (0 : Int) = (cellV L xs k &&& 3).toInt := fun q => h0 (Int32.toInt_inj.mp q.symm)
      by_cases h1 : cellV L xs k &&& 3 = 1
      · refine r_topI (y := (1 : Int32)) (by rw [h1]) ?_
        refine r_lookup 62 S dL_place_25 (by decide +kernel) rfl (by decide) ?_
        refine r_sipush (v := (500 : Int32)) S dL_place_62 rfl ?_
        refine r_iload S dL_place_65 0 rfl ?_
        refine r_iconst (v := (0 : Int32)) S dL_place_67 rfl ?_
        refine r_bipush (v := (30 : Int32)) S dL_place_68 rfl ?_
        refine r_ci0 S (c_between l0 D0 cI cJ cZ cY (by decide +kernel)) (gS u119 u120 u113 u121) ok_Lbetween ⟨rfl, rfl⟩ ⟨Nat.le_of_ble_eq_true rfl, Nat.le_of_ble_eq_true rfl⟩ (As := [.int (shV (cellV L xs k) z), .int 0, .int 30]) (rest := [.int 500]) rfl rfl (Nat.le_of_ble_eq_true rfl) dL_place_70 ?_
        refine r_iadd S dL_place_73 ?_
        refine r_topI (y := plcV L xs k z) (by unfold plcV; rw [if_neg h0, if_pos h1]) ?_
        exact hR _ _ dL_place_74
      · have z1 : ¬ (1 : Int) = (cellV L xs k &&& 3).toInt := fun q => h1 (Int32.toInt_inj.mp q.symm)
        refine r_lookup 75 S dL_place_25 (by decide +kernel) (by show (if (0 : Int) = (cellV L xs k &&& 3).toInt then (27 : Int) else if (1 : Int) = (cellV L xs k &&& 3).toInt then 37 else 50) = 50; rw [if_neg z0, if_neg z1]) (by decide) ?_
        refine r_bipush (v := (16 : Int32)) S dL_place_75 rfl ?_
        refine r_iload S dL_place_77 0 rfl ?_
        refine r_iconst (v := (0 : Int32)) S dL_place_79 rfl ?_
        refine r_bipush (v := (9 : Int32)) S dL_place_80 rfl ?_
        refine r_ci0 S (c_between l0 D0 cI cJ cZ cY (by decide +kernel)) (gS u119 u120 u113 u121) ok_Lbetween ⟨rfl, rfl⟩ ⟨Nat.le_of_ble_eq_true rfl, Nat.le_of_ble_eq_true rfl⟩ (As := [.int (shV (cellV L xs k) z), .int 0, .int 9]) (rest := [.int 16]) rfl rfl (Nat.le_of_ble_eq_true rfl) dL_place_82 ?_
        refine r_imul S dL_place_85 ?_
        refine r_topI (y := plcV L xs k z) (by unfold plcV; rw [if_neg h0, if_neg h1]) ?_
        exact hR _ _ dL_place_86
  refine r_istore_n S dL_place_5 rfl (Nat.le_of_ble_eq_true rfl) (lv' := [(3, .int (cellV L xs k)), (0, .ref b), (1, .int k), (2, .int z)]) rfl ?_
  refine r_iload_n S dL_place_6 rfl 3 rfl ?_
  refine r_if_eq 16 S dL_place_7 (by decide) (fun c => ?_) (fun c => ?_)
  · refine r_iload_n S dL_place_16 rfl 0 rfl ?_
    refine r_bipush (v := (13 : Int32)) S dL_place_17 rfl ?_
    refine r_ishr S dL_place_19 ?_
    refine r_topI (y := shV (cellV L xs k) z) (by unfold shV; rw [if_pos c]) ?_
    exact tail
  · refine r_iload_n S dL_place_10 rfl 0 rfl ?_
    refine r_iconst (v := (3 : Int32)) S dL_place_11 rfl ?_
    refine r_ishr S dL_place_12 ?_
    refine r_goto 20 S dL_place_13 (by decide) ?_
    refine r_topI (y := shV (cellV L xs k) z) (by unfold shV; rw [if_neg c]) ?_
    exact tail
theorem c_many (l0 : Launch) (D0 : va_G) (cI cJ cZ cY : ClassId) {b L : Nat} {xs : Nat → Int32} (hL : L ≤ 260) : Cix D0 [(cI, .int), (cJ, .long), (cZ, .boolean), (cY, .array .int)] l0 yL_many wtL_many ({ frames := 1, cells := 0, slots := 0, locals := 22 } : Room) [.ref b] (btw (cellV L xs 0) 0 24) b L xs [] [] := by
  refine Cix.ofi cL_many 1 (own := RL) (by decide +kernel) rfl rfl (Nat.le_of_ble_eq_true rfl) ?_
  intro X S hXs hR
  show G X 0 [(0, .ref b)] [] []
  refine r_aload_n S dL_many_0 rfl 0 rfl ?_
  refine r_iconst (v := (0 : Int32)) S dL_many_1 rfl ?_
  refine r_cix S hXs (c_cell l0 D0 cI cJ cZ cY hL (by decide +kernel)) (gS u115 u116 u113 u117) ok_Lcell ⟨rfl, rfl⟩ ⟨Nat.le_of_ble_eq_true rfl, Nat.le_of_ble_eq_true rfl⟩ (As := [.ref b, .int 0]) (rest := []) rfl rfl (Nat.le_of_ble_eq_true rfl) dL_many_2 ?_
  refine r_iconst (v := (0 : Int32)) S dL_many_5 rfl ?_
  refine r_bipush (v := (24 : Int32)) S dL_many_6 rfl ?_
  refine r_ci0 S (c_between l0 D0 cI cJ cZ cY (by decide +kernel)) (gS u119 u120 u113 u121) ok_Lbetween ⟨rfl, rfl⟩ ⟨Nat.le_of_ble_eq_true rfl, Nat.le_of_ble_eq_true rfl⟩ (As := [.int (cellV L xs 0), .int 0, .int 24]) (rest := []) rfl rfl (Nat.le_of_ble_eq_true rfl) dL_many_8 ?_
  exact hR _ _ dL_many_11
