theorem nI_7 (i : Nat) : nI i + 7 = nI (i + 7) := nI_add i 7
theorem sc_in {i j L : Nat} (hi : i + 7 ≤ L) (hj : j < 7) (hL : L ≤ 3584) : ∀ c : Int32, c = nI j → vp_in (nI i + c) L := fun c hc => by
  rw [hc, nI_add]
  exact vp_in_nI (by omega) (by omega)
def Xs (X : GX) (b L : Nat) (xs : Nat → Int32) : Prop := match X with
  | (_, _, _, _, s, _, _, _, _, _, A, _, _, _, _, _) => va_X b L xs s s.heap ∧ b < s.heap.size ∧ ¬ A b
theorem r_sld {X : GX} {cc : ByteArray} {Ts : List Cond} {own : String} {nl : Nat} {rm : Room} {tys : List (ClassId × FieldType)} {D0 : va_G} {l0 : Launch} {pc : Nat} {lv : List (Nat × Value)} {st : List Value} {ws : va_W} {b L : Nat} {xs : Nat → Int32} {i : Int32} (hXs : Xs X b L xs) (S : Sx X cc Ts own nl rm tys D0 l0) (hin : vp_in i L) (hd : decode cc pc = .ok (.iaload, 1)) (k : G X (pc + 1) lv (.int (xs i.toInt.toNat) :: st) ws) : G X pc lv (.int i :: .ref b :: st) ws := by
  obtain ⟨p, l, e, R, s, m, args, below, meth, c, A, Q, D, nL, kc, ks⟩ := X
  obtain ⟨hx, hb, hml, hown, hts, hK, hA, rfl, rfl, rfl, rfl, hkc, hks⟩ := S
  obtain ⟨hX, hbl, hbA⟩ := hXs
  intro H locs ls hP hD hS hl
  exact va_sld hx hb hX hbl hbA hS hin hd (k H locs ls hP hD hS hl)
theorem r_slen {X : GX} {cc : ByteArray} {Ts : List Cond} {own : String} {nl : Nat} {rm : Room} {tys : List (ClassId × FieldType)} {D0 : va_G} {l0 : Launch} {pc : Nat} {lv : List (Nat × Value)} {st : List Value} {ws : va_W} {b L : Nat} {xs : Nat → Int32} (hXs : Xs X b L xs) (S : Sx X cc Ts own nl rm tys D0 l0) (hd : decode cc pc = .ok (.arraylength, 1)) (k : G X (pc + 1) lv (.int (nI L) :: st) ws) : G X pc lv (.ref b :: st) ws := by
  obtain ⟨p, l, e, R, s, m, args, below, meth, c, A, Q, D, nL, kc, ks⟩ := X
  obtain ⟨hx, hb, hml, hown, hts, hK, hA, rfl, rfl, rfl, rfl, hkc, hks⟩ := S
  obtain ⟨hX, hbl, hbA⟩ := hXs
  intro H locs ls hP hD hS hl
  exact va_slen hx hb hX hbl hbA hS hd (k H locs ls hP hD hS hl)
theorem G_b {b c : Bool} (h : b = c) (f : Bool → Prop) (k : f c) : f b := h ▸ k
abbrev TYS (cI cJ cZ cY : ClassId) : List (ClassId × FieldType) := [(cI, .int), (cJ, .long), (cZ, .boolean), (cY, .array .int)]
abbrev TsL : List Cond := Cond.classLink RL 7 RX8 :: wsL_law
theorem law_lt {i L : Nat} (hL : L ≤ 3584) (q : i + 7 ≤ L) (c : nI L - 7 < nI i) : False := by
  have e : nI L - 7 = nI (L - 7) := pk_sub (a := L) (b := 7) (by omega)
  rw [e] at c
  exact (nI_nlt (a := L - 7) (b := i) (by omega) (by omega)) c
theorem law_ge {i L : Nat} (hL : L ≤ 3584) (h2 : i ≤ L + 7) (c : ¬ nI L - 7 < nI i) : i + 7 ≤ L := by
  rcases Nat.lt_or_ge L (i + 7) with h | h
  · exfalso
    apply c
    have h1 : (nI L - 7).toInt = (L : Int) - 7 := by
      have := pk_sub_toInt (a := L) (b := 7) (by omega) (by omega)
      exact this
    rw [Int32.lt_iff_toInt_lt, h1, nI_toInt (by omega)]
    omega
  · exact h
set_option maxRecDepth 100000 in
set_option maxHeartbeats 4000000 in
theorem law_pre {X : GX} {l0 : Launch} {D0 : va_G} {cI cJ cZ cY : ClassId} {b L : Nat} {xs : Nat → Int32} (S : Sx X cL_law TsL RL 4 room_1 (TYS cI cJ cZ cY) D0 l0) (hXs : Xs X b L xs) (hL : L ≤ 3584) (i : Nat) (ad rw : Nat → Nat) (ca : CA) (cl : CL) (ci : CI) (fr : Nat → Nat → Int32) (hhi : i + 7 ≤ L → G X 27 [(0, .ref b), (1, .ref (ad 0)), (2, .ref (ad 13)), (3, .int (nI i))] [] (WL cI cJ cZ cY ad rw ca cl ci fr)) (hlo : ¬ i + 7 ≤ L → G X 1531 [(0, .ref b), (1, .ref (ad 0)), (2, .ref (ad 13)), (3, .int (nI i))] [] (WL cI cJ cZ cY ad rw ca cl ci fr)) (hi2 : i ≤ L + 7) : G X 18 [(0, .ref b), (1, .ref (ad 0)), (2, .ref (ad 13)), (3, .int (nI i))] [] (WL cI cJ cZ cY ad rw ca cl ci fr) := by
  refine r_iload_n S dL_law_18 rfl 3 rfl ?_
  refine r_aload_n S dL_law_19 rfl 0 rfl ?_
  refine r_slen hXs S dL_law_20 ?_
  refine r_bipush (v := (7 : Int32)) S dL_law_21 rfl ?_
  refine r_isub S dL_law_23 ?_
  refine r_icmp_gt 1531 S dL_law_24 (by decide) (fun c => hlo ?_) (fun c => hhi ?_)
  · exact fun q => law_lt hL q c
  · exact law_ge hL hi2 c
set_option maxRecDepth 100000 in
set_option maxHeartbeats 4000000 in
theorem law_out {X : GX} {l0 : Launch} {D0 : va_G} {cI cJ cZ cY : ClassId} {b L : Nat} {xs : Nat → Int32} (S : Sx X cL_law TsL RL 4 room_1 (TYS cI cJ cZ cY) D0 l0) (hXs : Xs X b L xs) (hL : L ≤ 3584) (hR : ∀ (pc : Nat) (lv : List (Nat × Value)) (ws : va_W), decode cL_law pc = .ok (.ireturn, 1) → G X pc lv [.int 1] ws) (i : Nat) (hi : ¬ i + 7 ≤ L) (hi2 : i ≤ L + 7) (ad rw : Nat → Nat) (ca : CA) (cl : CL) (ci : CI) (fr : Nat → Nat → Int32) : G X 18 [(0, .ref b), (1, .ref (ad 0)), (2, .ref (ad 13)), (3, .int (nI i))] [] (WL cI cJ cZ cY ad rw ca cl ci fr) := by
  refine law_pre S hXs hL i ad rw ca cl ci fr (fun q => absurd q hi) (fun _ => ?_) hi2
  refine r_iconst (v := (1 : Int32)) S dL_law_1531 rfl ?_
  exact hR _ _ _ dL_law_1532
set_option maxRecDepth 100000 in
set_option maxHeartbeats 4000000 in
theorem law_head {X : GX} {l0 : Launch} {D0 : va_G} {cI cJ cZ cY : ClassId} {b L : Nat} {xs : Nat → Int32} (S : Sx X cL_law TsL RL 4 room_1 (TYS cI cJ cZ cY) D0 l0) (hXs : Xs X b L xs) (hL : L ≤ 3584) (i : Nat) (hi : i + 7 ≤ L) (ad rw : Nat → Nat) (ca : CA) (cl : CL) (ci : CI) (fr : Nat → Nat → Int32) (hk : ∀ k, k < 39 → G X ((#[204, 247, 270, 303, 326, 349, 362, 385, 418, 451, 494, 527, 560, 603, 626, 659, 682, 715, 758, 801, 844, 919, 994, 1027, 1060, 1093, 1136, 1169, 1192, 1245, 1278, 1291, 1314, 1337, 1380, 1413, 1436, 1479, 1502] : Array Nat)[k]?.getD 0) [(0, .ref b), (1, .ref (ad 0)), (2, .ref (ad 13)), (3, .int (nI i))] [] (WL cI cJ cZ cY ad rw ca cl ci fr)) (hd : G X 1525 [(0, .ref b), (1, .ref (ad 0)), (2, .ref (ad 13)), (3, .int (nI i))] [] (WL cI cJ cZ cY ad rw ca cl ci fr)) : G X 18 [(0, .ref b), (1, .ref (ad 0)), (2, .ref (ad 13)), (3, .int (nI i))] [] (WL cI cJ cZ cY ad rw ca cl ci fr) := by
  refine law_pre S hXs hL i ad rw ca cl ci fr (fun _ => ?_) (fun q => absurd hi q) (by omega)
  refine r_aload_n S dL_law_27 rfl 0 rfl ?_
  refine r_iload_n S dL_law_28 rfl 3 rfl ?_
  refine r_sld hXs S (by have := sc_in hi (by decide : 0 < 7) hL 0 rfl; rw [show nI i + 0 = nI i from nI_add i 0] at this; exact this) dL_law_29 ?_
  refine r_bipush (v := (63 : Int32)) S dL_law_30 rfl ?_
  refine r_iand S dL_law_32 ?_
  refine r_topI (y := xs (nI i).toInt.toNat &&& 63) rfl ?_
  generalize xs (nI i).toInt.toNat &&& 63 = c
  by_cases c0 : c = (0 : Int32)
  · exact r_tableK (kk := (0 : Int32)) (off := 171) 204 S dL_law_33 c0 (by decide) (by decide) (by decide +kernel) (by decide) (hk 0 (by decide))
  by_cases c1 : c = (1 : Int32)
  · exact r_tableK (kk := (1 : Int32)) (off := 214) 247 S dL_law_33 c1 (by decide) (by decide) (by decide +kernel) (by decide) (hk 1 (by decide))
  by_cases c2 : c = (2 : Int32)
  · exact r_tableK (kk := (2 : Int32)) (off := 237) 270 S dL_law_33 c2 (by decide) (by decide) (by decide +kernel) (by decide) (hk 2 (by decide))
  by_cases c3 : c = (3 : Int32)
  · exact r_tableK (kk := (3 : Int32)) (off := 270) 303 S dL_law_33 c3 (by decide) (by decide) (by decide +kernel) (by decide) (hk 3 (by decide))
  by_cases c4 : c = (4 : Int32)
  · exact r_tableK (kk := (4 : Int32)) (off := 293) 326 S dL_law_33 c4 (by decide) (by decide) (by decide +kernel) (by decide) (hk 4 (by decide))
  by_cases c5 : c = (5 : Int32)
  · exact r_tableK (kk := (5 : Int32)) (off := 316) 349 S dL_law_33 c5 (by decide) (by decide) (by decide +kernel) (by decide) (hk 5 (by decide))
  by_cases c6 : c = (6 : Int32)
  · exact r_tableK (kk := (6 : Int32)) (off := 329) 362 S dL_law_33 c6 (by decide) (by decide) (by decide +kernel) (by decide) (hk 6 (by decide))
  by_cases c7 : c = (7 : Int32)
  · exact r_tableK (kk := (7 : Int32)) (off := 352) 385 S dL_law_33 c7 (by decide) (by decide) (by decide +kernel) (by decide) (hk 7 (by decide))
  by_cases c8 : c = (8 : Int32)
  · exact r_tableK (kk := (8 : Int32)) (off := 385) 418 S dL_law_33 c8 (by decide) (by decide) (by decide +kernel) (by decide) (hk 8 (by decide))
  by_cases c9 : c = (9 : Int32)
  · exact r_tableK (kk := (9 : Int32)) (off := 418) 451 S dL_law_33 c9 (by decide) (by decide) (by decide +kernel) (by decide) (hk 9 (by decide))
  by_cases c10 : c = (10 : Int32)
  · exact r_tableK (kk := (10 : Int32)) (off := 461) 494 S dL_law_33 c10 (by decide) (by decide) (by decide +kernel) (by decide) (hk 10 (by decide))
  by_cases c11 : c = (11 : Int32)
  · exact r_tableK (kk := (11 : Int32)) (off := 494) 527 S dL_law_33 c11 (by decide) (by decide) (by decide +kernel) (by decide) (hk 11 (by decide))
  by_cases c12 : c = (12 : Int32)
  · exact r_tableK (kk := (12 : Int32)) (off := 527) 560 S dL_law_33 c12 (by decide) (by decide) (by decide +kernel) (by decide) (hk 12 (by decide))
  by_cases c13 : c = (13 : Int32)
  · exact r_tableK (kk := (13 : Int32)) (off := 570) 603 S dL_law_33 c13 (by decide) (by decide) (by decide +kernel) (by decide) (hk 13 (by decide))
  by_cases c14 : c = (14 : Int32)
  · exact r_tableK (kk := (14 : Int32)) (off := 593) 626 S dL_law_33 c14 (by decide) (by decide) (by decide +kernel) (by decide) (hk 14 (by decide))
  by_cases c15 : c = (15 : Int32)
  · exact r_tableK (kk := (15 : Int32)) (off := 626) 659 S dL_law_33 c15 (by decide) (by decide) (by decide +kernel) (by decide) (hk 15 (by decide))
  by_cases c16 : c = (16 : Int32)
  · exact r_tableK (kk := (16 : Int32)) (off := 649) 682 S dL_law_33 c16 (by decide) (by decide) (by decide +kernel) (by decide) (hk 16 (by decide))
  by_cases c17 : c = (17 : Int32)
  · exact r_tableK (kk := (17 : Int32)) (off := 682) 715 S dL_law_33 c17 (by decide) (by decide) (by decide +kernel) (by decide) (hk 17 (by decide))
  by_cases c18 : c = (18 : Int32)
  · exact r_tableK (kk := (18 : Int32)) (off := 725) 758 S dL_law_33 c18 (by decide) (by decide) (by decide +kernel) (by decide) (hk 18 (by decide))
  by_cases c19 : c = (19 : Int32)
  · exact r_tableK (kk := (19 : Int32)) (off := 768) 801 S dL_law_33 c19 (by decide) (by decide) (by decide +kernel) (by decide) (hk 19 (by decide))
  by_cases c20 : c = (20 : Int32)
  · exact r_tableK (kk := (20 : Int32)) (off := 811) 844 S dL_law_33 c20 (by decide) (by decide) (by decide +kernel) (by decide) (hk 20 (by decide))
  by_cases c21 : c = (21 : Int32)
  · exact r_tableK (kk := (21 : Int32)) (off := 886) 919 S dL_law_33 c21 (by decide) (by decide) (by decide +kernel) (by decide) (hk 21 (by decide))
  by_cases c22 : c = (22 : Int32)
  · exact r_tableK (kk := (22 : Int32)) (off := 961) 994 S dL_law_33 c22 (by decide) (by decide) (by decide +kernel) (by decide) (hk 22 (by decide))
  by_cases c23 : c = (23 : Int32)
  · exact r_tableK (kk := (23 : Int32)) (off := 994) 1027 S dL_law_33 c23 (by decide) (by decide) (by decide +kernel) (by decide) (hk 23 (by decide))
  by_cases c24 : c = (24 : Int32)
  · exact r_tableK (kk := (24 : Int32)) (off := 1027) 1060 S dL_law_33 c24 (by decide) (by decide) (by decide +kernel) (by decide) (hk 24 (by decide))
  by_cases c25 : c = (25 : Int32)
  · exact r_tableK (kk := (25 : Int32)) (off := 1060) 1093 S dL_law_33 c25 (by decide) (by decide) (by decide +kernel) (by decide) (hk 25 (by decide))
  by_cases c26 : c = (26 : Int32)
  · exact r_tableK (kk := (26 : Int32)) (off := 1103) 1136 S dL_law_33 c26 (by decide) (by decide) (by decide +kernel) (by decide) (hk 26 (by decide))
  by_cases c27 : c = (27 : Int32)
  · exact r_tableK (kk := (27 : Int32)) (off := 1136) 1169 S dL_law_33 c27 (by decide) (by decide) (by decide +kernel) (by decide) (hk 27 (by decide))
  by_cases c28 : c = (28 : Int32)
  · exact r_tableK (kk := (28 : Int32)) (off := 1159) 1192 S dL_law_33 c28 (by decide) (by decide) (by decide +kernel) (by decide) (hk 28 (by decide))
  by_cases c29 : c = (29 : Int32)
  · exact r_tableK (kk := (29 : Int32)) (off := 1212) 1245 S dL_law_33 c29 (by decide) (by decide) (by decide +kernel) (by decide) (hk 29 (by decide))
  by_cases c30 : c = (30 : Int32)
  · exact r_tableK (kk := (30 : Int32)) (off := 1245) 1278 S dL_law_33 c30 (by decide) (by decide) (by decide +kernel) (by decide) (hk 30 (by decide))
  by_cases c31 : c = (31 : Int32)
  · exact r_tableK (kk := (31 : Int32)) (off := 1258) 1291 S dL_law_33 c31 (by decide) (by decide) (by decide +kernel) (by decide) (hk 31 (by decide))
  by_cases c32 : c = (32 : Int32)
  · exact r_tableK (kk := (32 : Int32)) (off := 1281) 1314 S dL_law_33 c32 (by decide) (by decide) (by decide +kernel) (by decide) (hk 32 (by decide))
  by_cases c33 : c = (33 : Int32)
  · exact r_tableK (kk := (33 : Int32)) (off := 1304) 1337 S dL_law_33 c33 (by decide) (by decide) (by decide +kernel) (by decide) (hk 33 (by decide))
  by_cases c34 : c = (34 : Int32)
  · exact r_tableK (kk := (34 : Int32)) (off := 1347) 1380 S dL_law_33 c34 (by decide) (by decide) (by decide +kernel) (by decide) (hk 34 (by decide))
  by_cases c35 : c = (35 : Int32)
  · exact r_tableK (kk := (35 : Int32)) (off := 1380) 1413 S dL_law_33 c35 (by decide) (by decide) (by decide +kernel) (by decide) (hk 35 (by decide))
  by_cases c36 : c = (36 : Int32)
  · exact r_tableK (kk := (36 : Int32)) (off := 1403) 1436 S dL_law_33 c36 (by decide) (by decide) (by decide +kernel) (by decide) (hk 36 (by decide))
  by_cases c37 : c = (37 : Int32)
  · exact r_tableK (kk := (37 : Int32)) (off := 1446) 1479 S dL_law_33 c37 (by decide) (by decide) (by decide +kernel) (by decide) (hk 37 (by decide))
  by_cases c38 : c = (38 : Int32)
  · exact r_tableK (kk := (38 : Int32)) (off := 1469) 1502 S dL_law_33 c38 (by decide) (by decide) (by decide +kernel) (by decide) (hk 38 (by decide))
  refine r_tableOut 1525 S dL_law_33 (by have q0 := lv_neT (a := 0) c0 rfl; have q1 := lv_neT (a := 1) c1 rfl; have q2 := lv_neT (a := 2) c2 rfl; have q3 := lv_neT (a := 3) c3 rfl; have q4 := lv_neT (a := 4) c4 rfl; have q5 := lv_neT (a := 5) c5 rfl; have q6 := lv_neT (a := 6) c6 rfl; have q7 := lv_neT (a := 7) c7 rfl; have q8 := lv_neT (a := 8) c8 rfl; have q9 := lv_neT (a := 9) c9 rfl; have q10 := lv_neT (a := 10) c10 rfl; have q11 := lv_neT (a := 11) c11 rfl; have q12 := lv_neT (a := 12) c12 rfl; have q13 := lv_neT (a := 13) c13 rfl; have q14 := lv_neT (a := 14) c14 rfl; have q15 := lv_neT (a := 15) c15 rfl; have q16 := lv_neT (a := 16) c16 rfl; have q17 := lv_neT (a := 17) c17 rfl; have q18 := lv_neT (a := 18) c18 rfl; have q19 := lv_neT (a := 19) c19 rfl; have q20 := lv_neT (a := 20) c20 rfl; have q21 := lv_neT (a := 21) c21 rfl; have q22 := lv_neT (a := 22) c22 rfl; have q23 := lv_neT (a := 23) c23 rfl; have q24 := lv_neT (a := 24) c24 rfl; have q25 := lv_neT (a := 25) c25 rfl; have q26 := lv_neT (a := 26) c26 rfl; have q27 := lv_neT (a := 27) c27 rfl; have q28 := lv_neT (a := 28) c28 rfl; have q29 := lv_neT (a := 29) c29 rfl; have q30 := lv_neT (a := 30) c30 rfl; have q31 := lv_neT (a := 31) c31 rfl; have q32 := lv_neT (a := 32) c32 rfl; have q33 := lv_neT (a := 33) c33 rfl; have q34 := lv_neT (a := 34) c34 rfl; have q35 := lv_neT (a := 35) c35 rfl; have q36 := lv_neT (a := 36) c36 rfl; have q37 := lv_neT (a := 37) c37 rfl; have q38 := lv_neT (a := 38) c38 rfl; omega) (by decide) hd
