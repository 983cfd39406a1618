/-! ===== PURE 60: cover, tiles of tiles ===== -/
theorem quad (u v a b : Nat) (c : Bool) : (if (c && (decide (u / 2 = a) && decide (v / 2 = b))) = true then 1 else 0) =
    (if (c && (decide (u = 2 * a + 0) && decide (v = 2 * b + 0))) = true then 1 else 0) + (if (c && (decide (u = 2 * a + 1) && decide (v = 2 * b + 0))) = true then 1 else 0) + (if (c && (decide (u = 2 * a + 0) && decide (v = 2 * b + 1))) = true then 1 else 0) + (if (c && (decide (u = 2 * a + 1) && decide (v = 2 * b + 1))) = true then 1 else 0) := by
  cases c with
  | false => rfl
  | true =>
    simp only [Bool.true_and, Bool.and_eq_true, decide_eq_true_eq]
    by_cases h : u / 2 = a ∧ v / 2 = b
    · rw [if_pos h]
      rcases Nat.mod_two_eq_zero_or_one u with e1 | e1 <;> rcases Nat.mod_two_eq_zero_or_one v with e2 | e2
      · rw [if_pos (by omega), if_neg (by omega), if_neg (by omega), if_neg (by omega)]
      · rw [if_neg (by omega), if_neg (by omega), if_pos (by omega), if_neg (by omega)]
      · rw [if_neg (by omega), if_pos (by omega), if_neg (by omega), if_neg (by omega)]
      · rw [if_neg (by omega), if_neg (by omega), if_neg (by omega), if_pos (by omega)]
    · rw [if_neg h, if_neg (by omega), if_neg (by omega), if_neg (by omega), if_neg (by omega)]
theorem cnt_one {m : Nat} : ∀ n, cntB (fun k => decide (k = m)) n = if m < n then 1 else 0
  | 0 => rfl
  | n + 1 => by
    have e : cntB (fun k => decide (k = m)) (n + 1) = cntB (fun k => decide (k = m)) n + (if decide (n = m) = true then 1 else 0) := rfl
    rw [e, cnt_one n]
    by_cases h : n = m
    · rw [decide_eq_true h, if_pos rfl, if_neg (by omega), if_pos (by omega)]
    · rw [decide_eq_false h, if_neg Bool.false_ne_true]
      by_cases g : m < n
      · rw [if_pos g, if_pos (by omega)]
      · rw [if_neg g, if_neg (by omega)]
theorem cnt_zero {p : Nat → Bool} : ∀ {n}, (∀ k, k < n → p k = false) → cntB p n = 0
  | 0, _ => rfl
  | n + 1, h => by
    have e : cntB p (n + 1) = cntB p n + (if p n = true then 1 else 0) := rfl
    rw [e, cnt_zero (fun k hk => h k (by omega)), h n (by omega)]
    rfl
def ctT (X Y : Nat → Nat) (N S z a b : Nat) : Nat := cntB (fun p => cvB X Y N S p && inT X Y z a b p) N
theorem rad_half {z : Nat} (hz : z < 10) : rad z = rad (z + 1) * 2 := by
  rw [rad_pow (by omega), rad_pow (by omega), show 10 - z = 10 - (z + 1) + 1 by omega, Nat.pow_succ]
theorem ct_quad {X Y : Nat → Nat} {N S z a b : Nat} (hz : z < 10) : ctT X Y N S z a b = ctT X Y N S (z + 1) (2 * a + 0) (2 * b + 0) + ctT X Y N S (z + 1) (2 * a + 1) (2 * b + 0) + ctT X Y N S (z + 1) (2 * a + 0) (2 * b + 1) + ctT X Y N S (z + 1) (2 * a + 1) (2 * b + 1) := by
  unfold ctT
  rw [cntB_sum, cntB_sum, cntB_sum, cntB_sum, cntB_sum, ← sumB_add, ← sumB_add, ← sumB_add]
  refine sumB_congr (fun k _ => ?_)
  have q := quad (X k / rad (z + 1)) (Y k / rad (z + 1)) a b (cvB X Y N S k)
  rw [Nat.div_div_eq_div_mul, Nat.div_div_eq_div_mul, ← rad_half hz] at q
  exact q
theorem tiles9 {F N S : Nat} {X Y W : Nat → Nat} {xs ys : Nat → Int32} (hF : 1000 ≤ F) (gd : GOOD N X Y W) (hP : PT N X Y xs ys) (hS : S < 2 ^ 24) :
    ∀ d z a b, z ≤ 10 → 11 ≤ z + d → a < 2 ^ z → b < 2 ^ z → (∀ p, p < N → inT X Y z a b p = true → ∀ z', z' < z → sbB X Y N S z' p = false) →
      mX9_tiles F d (nI z) (nI a) (nI b) (nI S) (nI N) xs ys = some (nI (ctT X Y N S z a b)) := by
  have hN := gd.1
  intro d
  induction d with
  | zero => intro z a b h1 h2; omega
  | succ d ih =>
    intro z a b hz hd ha hb hs
    have p10 : 2 ^ z ≤ 1024 := Nat.pow_le_pow_right (n := 2) (by omega) hz
    have lt := tm_lt (X := X) (Y := Y) (z := z) (a := a) (b := b) hN
    unfold mX9_tiles
    rw [tile9 hF hN hz, Option.bind_some, tl_nat hP gd.2.1 hz (by omega) (by omega), nI_and (by omega) (by omega)]
    have k1 := nI_eq0 (a := tmB X Y N z a b &&& S) (Nat.lt_of_le_of_lt Nat.and_le_left (by omega))
    have k2 := sub_mask (a := tmB X Y N z a b) (b := S) (by omega)
    by_cases c : tmB X Y N z a b &&& S = 0
    · rw [if_pos (by rw [k1]; exact c)]
      have e : ctT X Y N S z a b = 0 := cnt_zero (fun k hk => by
        cases e1 : inT X Y z a b k with
        | false => rw [Bool.and_false]
        | true =>
          have t : (tmB X Y N z a b &&& S).testBit k = false := by rw [c, Nat.zero_testBit]
          rw [Nat.testBit_and, tm_bit, decide_eq_true hk, e1, Bool.true_and, Bool.true_and] at t
          unfold cvB
          rw [t]
          rfl)
      rw [e]
      rfl
    · rw [if_neg (by rw [k1]; exact c)]
      obtain ⟨p0, q1, q2, q3⟩ : ∃ p0, p0 < N ∧ inT X Y z a b p0 = true ∧ S.testBit p0 = true := by
        have l2 : tmB X Y N z a b &&& S < 2 ^ 24 := Nat.lt_of_le_of_lt Nat.and_le_left lt
        have ⟨b1, _, _⟩ := lo_bit l2 c
        rw [Nat.testBit_and, Bool.and_eq_true, tm_bit, Bool.and_eq_true] at b1
        exact ⟨_, of_decide_eq_true b1.1.1, b1.1.2, b1.2⟩
      by_cases c2 : ∀ i, (tmB X Y N z a b).testBit i = true → S.testBit i = true
      · rw [if_pos (by rw [k2]; exact c2)]
        have t0 : tmB X Y N z a b ≠ 0 := bit_ne0 (k := p0) (by rw [tm_bit, decide_eq_true q1, q2]; rfl)
        have ⟨l1, _, _⟩ := lo_bit lt t0
        have l2 := l1
        rw [tm_bit, Bool.and_eq_true] at l2
        have e : ctT X Y N S z a b = cntB (fun k => decide (k = lo (tmB X Y N z a b))) N := cntB_congr (fun k hk => by
          cases e1 : inT X Y z a b k with
          | false =>
            rw [Bool.and_false]
            refine (decide_eq_false (fun g => ?_)).symm
            rw [g, l2.2] at e1
            cases e1
          | true =>
            have ek := ot_eq (N := N) e1
            have sk : sbB X Y N S z k = true := (sb_iff hN).mpr (by rw [ek]; exact c2)
            have f : fstB (fun z => sbB X Y N S z k) 11 = some z := fstB_some.mpr ⟨by omega, sk, hs k hk e1⟩
            have w : wtT X Y N S k = tmB X Y N z a b := by
              unfold wtT
              rw [f]
              exact ek
            unfold cvB
            rw [w, c2 k (by rw [tm_bit, decide_eq_true hk, e1]; rfl), Bool.true_and, Bool.and_true]
            exact decide_eq_decide.mpr ⟨fun g => g.symm, fun g => g.symm⟩)
        rw [e, cnt_one, if_pos (of_decide_eq_true l2.1)]
        rfl
      · rw [if_neg (by rw [k2]; exact c2)]
        have nsb : ∀ p, p < N → inT X Y z a b p = true → sbB X Y N S z p = false := fun p hp h => by
          cases e : sbB X Y N S z p with
          | false => rfl
          | true =>
            rw [sb_iff hN, ot_eq h] at e
            exact absurd e c2
        have z9 : z < 10 := Nat.lt_of_not_le (fun g => c2 (fun i hi => by
          have z10 : z = 10 := by omega
          rw [tm_bit, Bool.and_eq_true] at hi
          have h1 := hi.2
          unfold inT at h1 q2
          have r1 : rad 10 = 1 := rfl
          rw [z10, r1, Bool.and_eq_true, decide_eq_true_iff, decide_eq_true_iff, Nat.div_one, Nat.div_one] at h1 q2
          have i2 := of_decide_eq_true hi.1
          have ei : i = p0 := by
            rcases Nat.lt_trichotomy i p0 with g | g | g
            · have := gd.2.2.2 i p0 g q1
              omega
            · exact g
            · have := gd.2.2.2 p0 i g i2
              omega
          rw [ei]
          exact q3))
        have pz : 2 ^ (z + 1) = 2 ^ z * 2 := Nat.pow_succ 2 z
        have child : ∀ u v, u < 2 → v < 2 → mX9_tiles F d (nI (z + 1)) (nI (2 * a + u)) (nI (2 * b + v)) (nI S) (nI N) xs ys = some (nI (ctT X Y N S (z + 1) (2 * a + u) (2 * b + v))) := fun u v hu hv =>
          ih (z + 1) (2 * a + u) (2 * b + v) (by omega) (by omega) (by omega) (by omega) (fun p hp h z' hz' => by
            have hin : inT X Y z a b p = true := by
              unfold inT at h ⊢
              rw [Bool.and_eq_true, decide_eq_true_iff, decide_eq_true_iff] at h ⊢
              rw [rad_half z9, ← Nat.div_div_eq_div_mul, ← Nat.div_div_eq_div_mul]
              omega
            rcases Nat.lt_succ_iff_lt_or_eq.mp hz' with g | g
            · exact hs p hp hin z' g
            · rw [g]
              exact nsb p hp hin)
        have body : ∀ k, k < 4 → ∀ s, mX9_tiles_b37 F (mX9_tiles F d) (nI z) (nI a) (nI b) (nI S) (nI N) xs ys (nI s) (nI k) = some (.inl (nI (s + ctT X Y N S (z + 1) (2 * a + k % 2) (2 * b + k / 2)), nI (k + 1))) := fun k hk s => by
          have e1 : nI k &&& (1 : Int32) = nI (k % 2) := by rw [c1, nI_and (by omega) (by omega), Nat.and_one_is_mod]
          have e2 : nI k >>> ((1 : Int32) &&& 31) = nI (k / 2) := nI_shr (m := k) (k := 1) (by omega) (by omega)
          have e3 : (2 : Int32) * nI a + nI (k % 2) = nI (2 * a + k % 2) := by rw [show (2 : Int32) = nI 2 from rfl, pk_mul, nI_add]
          have e4 : (2 : Int32) * nI b + nI (k / 2) = nI (2 * b + k / 2) := by rw [show (2 : Int32) = nI 2 from rfl, pk_mul, nI_add]
          unfold mX9_tiles_b37
          rw [if_neg (show ¬ (4 : Int32) ≤ nI k by rw [show (4 : Int32) = nI 4 from rfl, nI_leE (by omega) (by omega)]; omega), e1, e2, e3, e4, nI_1, child _ _ (by omega) (by omega), Option.bind_some, Option.bind_some, nI_add, nI_1]
        refine (lp (body := fun s37 : Int32 × Int32 => mX9_tiles_b37 F (mX9_tiles F d) (nI z) (nI a) (nI b) (nI S) (nI N) xs ys s37.1 s37.2) (F := F) (s0 := ((0 : Int32), (0 : Int32))) (fun k => (nI (sumB (fun k => ctT X Y N S (z + 1) (2 * a + k % 2) (2 * b + k / 2)) k), nI k)) 0 4
          (nI (sumB (fun k => ctT X Y N S (z + 1) (2 * a + k % 2) (2 * b + k / 2)) 4)) (by omega) rfl (fun k _ hk => body k hk _) ?_ (by omega)).trans ?_
        · unfold mX9_tiles_b37
          simp only []
          rw [if_pos (show (4 : Int32) ≤ nI 4 by decide +kernel)]
        · rw [ct_quad z9]
          show some (nI (0 + ctT X Y N S (z + 1) (2 * a + 0) (2 * b + 0) + ctT X Y N S (z + 1) (2 * a + 1) (2 * b + 0) + ctT X Y N S (z + 1) (2 * a + 0) (2 * b + 1) + ctT X Y N S (z + 1) (2 * a + 1) (2 * b + 1))) = _
          rw [Nat.zero_add]
theorem tilesAll9 {F N S : Nat} {X Y W : Nat → Nat} {xs ys : Nat → Int32} (hF : 1000 ≤ F) (gd : GOOD N X Y W) (hP : PT N X Y xs ys) (hS : S < 2 ^ 24) : mX9_tiles F 30 (0 : Int32) (0 : Int32) (0 : Int32) (nI S) (nI N) xs ys = some (nI (cntB (cvB X Y N S) N)) := by
  have e := tiles9 (F := F) hF gd hP hS 30 0 0 0 (by omega) (by omega) (by omega) (by omega) (fun p _ _ z' h => absurd h (Nat.not_lt_zero z'))
  have e2 : ctT X Y N S 0 0 0 = cntB (cvB X Y N S) N := cntB_congr (fun k hk => by
    have ⟨h1, h2⟩ := gd.2.1 k hk
    have r : rad 0 = 1024 := rfl
    unfold inT
    rw [r, decide_eq_true (show X k / 1024 = 0 by omega), decide_eq_true (show Y k / 1024 = 0 by omega), Bool.and_true, Bool.and_true])
  rw [e2] at e
  exact e
theorem call_cover {F : Nat} (hF : 5000 ≤ F) : Call_cover F INV := by
  intro ca cl ci fr a1 a2 h
  have h0 := h
  obtain ⟨N, M, S, X, Y, W, U, V, Z, ⟨g1, g2, g3, g4, g5, g6⟩, ⟨i8, i9, i15, i2, i3, i18, i19⟩, ⟨r1, r2, r3⟩, h4, h5, h6, h7⟩ := h
  have hN := g1.1
  rcases zm_or a1 with ⟨z, hz, rfl, z1, z2⟩ | hz
  · have hS := szB_part (X := X) (Y := Y) (z := z) hN
    obtain ⟨r, er, gr⟩ := cuts8 (F := F) (by omega) g1 r1 h4 hz i8 i9 a2 (ci 11) (ca 38) (ca 39) (ca 40) (ca 41) (ca 42)
    obtain ⟨t, e, gt⟩ := groupSet9 (F := F) (by omega) hN g1.2.1 hz h6 (ca 68) a2
    rw [← i15] at e
    rcases gs_or hN hS a2 with ⟨p, p1, p2, p3, p4, p5, p6⟩ | ⟨p1, p2⟩
    · have ⟨q24, q0⟩ := part_24 hN hS p1
      have ixl := ix_lt (s := szB X Y N z) (p := p)
      rw [decide_eq_true ⟨p5, p6⟩] at er
      rw [p4] at e
      have m9 := tilesAll9 (F := F) (by omega) g1 (rows_pt r2) q24
      rw [← i15] at m9
      have m8 := cover8 (F := F) (cn := r.1) (ga := r.2.1) (se := r.2.2.1) (we := r.2.2.2.1) (cx := r.2.2.2.2.1) (cy := r.2.2.2.2.2) (by omega) hN (rows_pt r1) g1.2.1 (show szB X Y N z p < 2 ^ 31 by omega)
      rw [← i9] at m8
      refine ⟨?r8, ?r9, ?e8, ?e9, ?rest⟩
      case e8 =>
        unfold mX8_cover
        rw [er, Option.bind_some, if_neg (by rw [k0T]; exact id), p3, rdI_n (by omega) (by omega), Option.bind_some, (gr.2.1 p p1 p2).1]
        exact m8
      case e9 =>
        unfold mX9_cover
        rw [e, Option.bind_some, if_neg (by rw [nI_eq0 (by omega)]; exact q0), m9, Option.bind_some]
      case rest => exact ⟨rfl, h0⟩
    · rw [decide_eq_false (by omega)] at er
      rw [p2] at e
      refine ⟨?r8b, ?r9b, ?e8b, ?e9b, ?restb⟩
      case e8b =>
        unfold mX8_cover
        rw [er, Option.bind_some, if_pos (by rw [k0F]; trivial)]
      case e9b =>
        unfold mX9_cover
        rw [e, Option.bind_some, if_pos (show nI 0 = 0 from rfl)]
      case restb => exact ⟨rfl, h0⟩
  · refine ⟨?r8c, ?r9c, ?e8c, ?e9c, ?restc⟩
    case e8c =>
      unfold mX8_cover mX8_cutsGroup
      rw [isZoom8, decide_eq_false hz, Option.bind_some, if_pos (by rw [k0F]; trivial), Option.bind_some, if_pos rfl]
    case e9c =>
      unfold mX9_cover mX9_groupSet
      rw [isZoom9, decide_eq_false hz, Option.bind_some, if_pos (by rw [k0F]; trivial), Option.bind_some, if_pos rfl]
    case restc => exact ⟨rfl, h0⟩
