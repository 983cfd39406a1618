set_option maxRecDepth 100000 in
set_option maxHeartbeats 4000000 in
theorem law_loop {X : GX} {l0 : Launch} {D0 : va_G} {cI cJ cZ cY : ClassId} {b L : Nat} {xs : Nat → Int32} (S : Sx X cL_law TsL RL 4 room_1 (TYS cI cJ cZ cY) D0 l0) (hXs : Xs X b L xs) (hL : L ≤ 3584) {F : Nat} {INV : CA → CL → CI → Prop} (hR : ∀ (pc : Nat) (lv : List (Nat × Value)) (ws : va_W), decode cL_law pc = .ok (.ireturn, 1) → G X pc lv [.int 1] ws) (hC : CallsOK F INV) : ∀ (n i : Nat), i ≤ L + 7 → L + 1 ≤ i + n → ∀ (ad rw : Nat → Nat) (ca : CA) (cl : CL) (ci : CI) (fr : Nat → Nat → Int32), INV ca cl ci → G X 18 [(0, .ref b), (1, .ref (ad 0)), (2, .ref (ad 13)), (3, .int (nI i))] [] (WL cI cJ cZ cY ad rw ca cl ci fr) := by
  intro n
  induction n with
  | zero =>
    intro i h1 h2 ad rw ca cl ci fr hI
    refine law_out S hXs hL hR i (by omega) h1 ad rw ca cl ci fr
  | succ n ih =>
    intro i h1 h2 ad rw ca cl ci fr hI
    by_cases hi : i + 7 ≤ L
    · obtain ⟨hC0, hC1, hC2, hC3, hC4, hC5, hC6, hC7, hC8, hC9, hC10, hC11, hC12, hC13, hC14, hC15, hC16, hC17, hC18, hC19, hC20, hC21, hC22, hC23, hC24, hC25, hC26, hC27, hC28, hC29, hC30, hC31, hC32, hC33, hC34, hC35, hC36, hC37, hC38⟩ := hC
      refine law_head S hXs hL i hi ad rw ca cl ci fr ?_ ?_
      · intro k hk
        match k, hk with
        | 0, _ => exact law_0 S hXs hL ih hC0 i hi h2 ad rw ca cl ci fr hI
        | 1, _ => exact law_1 S hXs hL ih hC1 i hi h2 ad rw ca cl ci fr hI
        | 2, _ => exact law_2 S hXs hL ih hC2 i hi h2 ad rw ca cl ci fr hI
        | 3, _ => exact law_3 S hXs hL ih hC3 i hi h2 ad rw ca cl ci fr hI
        | 4, _ => exact law_4 S hXs hL ih hC4 i hi h2 ad rw ca cl ci fr hI
        | 5, _ => exact law_5 S hXs hL ih hC5 i hi h2 ad rw ca cl ci fr hI
        | 6, _ => exact law_6 S hXs hL ih hC6 i hi h2 ad rw ca cl ci fr hI
        | 7, _ => exact law_7 S hXs hL ih hC7 i hi h2 ad rw ca cl ci fr hI
        | 8, _ => exact law_8 S hXs hL ih hC8 i hi h2 ad rw ca cl ci fr hI
        | 9, _ => exact law_9 S hXs hL ih hC9 i hi h2 ad rw ca cl ci fr hI
        | 10, _ => exact law_10 S hXs hL ih hC10 i hi h2 ad rw ca cl ci fr hI
        | 11, _ => exact law_11 S hXs hL ih hC11 i hi h2 ad rw ca cl ci fr hI
        | 12, _ => exact law_12 S hXs hL ih hC12 i hi h2 ad rw ca cl ci fr hI
        | 13, _ => exact law_13 S hXs hL ih hC13 i hi h2 ad rw ca cl ci fr hI
        | 14, _ => exact law_14 S hXs hL ih hC14 i hi h2 ad rw ca cl ci fr hI
        | 15, _ => exact law_15 S hXs hL ih hC15 i hi h2 ad rw ca cl ci fr hI
        | 16, _ => exact law_16 S hXs hL ih hC16 i hi h2 ad rw ca cl ci fr hI
        | 17, _ => exact law_17 S hXs hL ih hC17 i hi h2 ad rw ca cl ci fr hI
        | 18, _ => exact law_18 S hXs hL ih hC18 i hi h2 ad rw ca cl ci fr hI
        | 19, _ => exact law_19 S hXs hL ih hC19 i hi h2 ad rw ca cl ci fr hI
        | 20, _ => exact law_20 S hXs hL ih hC20 i hi h2 ad rw ca cl ci fr hI
        | 21, _ => exact law_21 S hXs hL ih hC21 i hi h2 ad rw ca cl ci fr hI
        | 22, _ => exact law_22 S hXs hL ih hC22 i hi h2 ad rw ca cl ci fr hI
        | 23, _ => exact law_23 S hXs hL ih hC23 i hi h2 ad rw ca cl ci fr hI
        | 24, _ => exact law_24 S hXs hL ih hC24 i hi h2 ad rw ca cl ci fr hI
        | 25, _ => exact law_25 S hXs hL ih hC25 i hi h2 ad rw ca cl ci fr hI
        | 26, _ => exact law_26 S hXs hL ih hC26 i hi h2 ad rw ca cl ci fr hI
        | 27, _ => exact law_27 S hXs hL ih hC27 i hi h2 ad rw ca cl ci fr hI
        | 28, _ => exact law_28 S hXs hL ih hC28 i hi h2 ad rw ca cl ci fr hI
        | 29, _ => exact law_29 S hXs hL ih hC29 i hi h2 ad rw ca cl ci fr hI
        | 30, _ => exact law_30 S hXs hL ih hC30 i hi h2 ad rw ca cl ci fr hI
        | 31, _ => exact law_31 S hXs hL ih hC31 i hi h2 ad rw ca cl ci fr hI
        | 32, _ => exact law_32 S hXs hL ih hC32 i hi h2 ad rw ca cl ci fr hI
        | 33, _ => exact law_33 S hXs hL ih hC33 i hi h2 ad rw ca cl ci fr hI
        | 34, _ => exact law_34 S hXs hL ih hC34 i hi h2 ad rw ca cl ci fr hI
        | 35, _ => exact law_35 S hXs hL ih hC35 i hi h2 ad rw ca cl ci fr hI
        | 36, _ => exact law_36 S hXs hL ih hC36 i hi h2 ad rw ca cl ci fr hI
        | 37, _ => exact law_37 S hXs hL ih hC37 i hi h2 ad rw ca cl ci fr hI
        | 38, _ => exact law_38 S hXs hL ih hC38 i hi h2 ad rw ca cl ci fr hI
        | k + 39, h => omega
      · refine r_iincc S dL_law_1525 3 rfl (c0 := (7 : Int32)) rfl (nI_7 i) (Nat.le_of_ble_eq_true rfl) (lv' := [(3, .int (nI (i + 7))), (0, .ref b), (1, .ref (ad 0)), (2, .ref (ad 13))]) rfl ?_
        refine r_goto 18 S dL_law_1528 (by decide) ?_
        refine r_lv [1, 2, 3, 0] (lv' := [(0, .ref b), (1, .ref (ad 0)), (2, .ref (ad 13)), (3, .int (nI (i + 7)))]) rfl ?_
        exact ih (i + 7) (by omega) (by omega) ad rw ca cl ci fr hI
    · exact law_out S hXs hL hR i hi h1 ad rw ca cl ci fr
