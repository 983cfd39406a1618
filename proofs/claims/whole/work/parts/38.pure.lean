/-! ===== PURE 29: call group ===== -/
def maxO (p : Nat → Bool) (f : Nat → Nat) : Nat → Option Nat
  | 0 => none
  | n + 1 => if p n = true then (match maxO p f n with
    | none => some (f n)
    | some b => some (max b (f n))) else maxO p f n
theorem minO_t {p : Nat → Bool} {f : Nat → Nat} {n : Nat} (h : p n = true) : minO p f (n + 1) = some (match minO p f n with | none => f n | some b => min b (f n)) := by
  show (if p n = true then _ else _) = _
  rw [if_pos h]
  cases minO p f n <;> rfl
theorem minO_f {p : Nat → Bool} {f : Nat → Nat} {n : Nat} (h : p n = false) : minO p f (n + 1) = minO p f n := if_neg (by rw [h]; decide)
theorem maxO_t {p : Nat → Bool} {f : Nat → Nat} {n : Nat} (h : p n = true) : maxO p f (n + 1) = some (match maxO p f n with | none => f n | some b => max b (f n)) := by
  show (if p n = true then _ else _) = _
  rw [if_pos h]
  cases maxO p f n <;> rfl
theorem maxO_f {p : Nat → Bool} {f : Nat → Nat} {n : Nat} (h : p n = false) : maxO p f (n + 1) = maxO p f n := if_neg (by rw [h]; decide)
theorem minO_bd {p : Nat → Bool} {f : Nat → Nat} {c : Nat} : ∀ {n b}, (∀ k, k < n → p k = true → f k < c) → minO p f n = some b → b < c
  | 0, b, _, h => by cases h
  | n + 1, b, hf, h => by
    have ⟨⟨k, k1, k2, k3⟩, _⟩ := minO_some h
    rw [← k3]
    exact hf k k1 k2
theorem maxO_bd {p : Nat → Bool} {f : Nat → Nat} {c : Nat} : ∀ {n b}, (∀ k, k < n → p k = true → f k < c) → maxO p f n = some b → b < c
  | 0, b, _, h => by cases h
  | n + 1, b, hf, h => by
    cases e : p n with
    | false =>
      rw [maxO_f e] at h
      exact maxO_bd (fun k hk => hf k (by omega)) h
    | true =>
      rw [maxO_t e] at h
      have hn := hf n (by omega) e
      cases g : maxO p f n with
      | none => rw [g] at h; cases h; exact hn
      | some a =>
        have := maxO_bd (fun k hk => hf k (by omega)) g
        rw [g] at h
        simp only [Option.some.injEq] at h
        omega
theorem maxO_some {p : Nat → Bool} {f : Nat → Nat} {k : Nat} : ∀ {n}, k < n → p k = true → ∃ b, maxO p f n = some b
  | 0, h, _ => by omega
  | n + 1, h, hp => by
    cases e : p n with
    | true => exact ⟨_, maxO_t e⟩
    | false =>
      have : k ≠ n := fun q => by rw [q, e] at hp; cases hp
      rw [maxO_f e]
      exact maxO_some (by omega) hp
theorem low6 {F N m : Nat} {f : Nat → Nat} {row : Nat → Int32} (hF : 1000 ≤ F) (hN : N ≤ 24) (hm : m < 2 ^ N) (hr : ∀ i, i < N → row i = nI (f i) ∧ f i < 1024) (h0 : m ≠ 0) : mX6_lowest F (nI m) row = some (oI (minO m.testBit f 24)) := by
  have hm31 := lt31 hm hN
  have hb : ∀ k, m.testBit k = true → k < N := fun k h => bit_lt hm h
  obtain ⟨b, eb⟩ : ∃ b, minO m.testBit f 24 = some b := by
    cases e : minO m.testBit f 24 with
    | some b => exact ⟨b, rfl⟩
    | none =>
      have := minO_none.mp e
      refine absurd (mask_ext (fun i => ?_)) h0
      rw [Nat.zero_testBit]
      cases g : m.testBit i with
      | false => rfl
      | true => rw [this i (by have := hb i g; omega)] at g; cases g
  have lt : ∀ k b, minO m.testBit f k = some b → b < 1024 := fun k b e => minO_bd (fun i _ hi => (hr i (hb i hi)).2) e
  unfold mX6_lowest
  rw [eb]
  refine lp (fun k => (nI (match minO m.testBit f k with | none => 1024 | some b => b), nI k)) 0 24 _ (by omega) rfl (fun k _ hk => ?_) ?_ (by omega)
  · unfold mX6_lowest_b6
    simp only []
    rw [if_neg (show ¬ (24 : Int32) ≤ nI k by rw [c24, nI_leE (by omega) (by omega)]; omega), has6b F hm31 (by omega), Option.bind_some, nI_1]
    cases e : m.testBit k with
    | false => rw [if_pos (by rw [k0F]; trivial), minO_f e]
    | true =>
      have ⟨q1, q2⟩ := hr k (hb k e)
      rw [if_neg (by rw [k0T]; exact id), rdI_n (by omega) (by omega), Option.bind_some, Option.bind_some, q1, minO_t e]
      cases g : minO m.testBit f k with
      | none => simp only []; rw [if_pos ((nI_ltI (by omega) (by omega)).mpr q2)]
      | some a =>
        have := lt k a g
        simp only []
        rw [minI (by omega) (by omega)]
  · unfold mX6_lowest_b6
    simp only []
    rw [if_pos (show (24 : Int32) ≤ nI 24 by decide +kernel), eb]
    rfl
theorem high6 {F N m : Nat} {f : Nat → Nat} {row : Nat → Int32} (hF : 1000 ≤ F) (hN : N ≤ 24) (hm : m < 2 ^ N) (hr : ∀ i, i < N → row i = nI (f i) ∧ f i < 1024) : mX6_highest F (nI m) row = some (oI (maxO m.testBit f 24)) := by
  have hm31 := lt31 hm hN
  have hb : ∀ k, m.testBit k = true → k < N := fun k h => bit_lt hm h
  have lt : ∀ k b, maxO m.testBit f k = some b → b < 1024 := fun k b e => maxO_bd (fun i _ hi => (hr i (hb i hi)).2) e
  unfold mX6_highest
  refine lp (fun k => (oI (maxO m.testBit f k), nI k)) 0 24 _ (by omega) rfl (fun k _ hk => ?_) ?_ (by omega)
  · unfold mX6_highest_b4
    simp only []
    rw [if_neg (show ¬ (24 : Int32) ≤ nI k by rw [c24, nI_leE (by omega) (by omega)]; omega), has6b F hm31 (by omega), Option.bind_some, nI_1]
    cases e : m.testBit k with
    | false => rw [if_pos (by rw [k0F]; trivial), maxO_f e]
    | true =>
      have ⟨q1, q2⟩ := hr k (hb k e)
      rw [if_neg (by rw [k0T]; exact id), rdI_n (by omega) (by omega), Option.bind_some, Option.bind_some, q1, maxO_t e]
      have st : (if oI (maxO m.testBit f k) < nI (f k) then nI (f k) else oI (maxO m.testBit f k)) = oI (some (match maxO m.testBit f k with | none => f k | some b => max b (f k))) := by
        cases g : maxO m.testBit f k with
        | none => exact if_pos (show (-1 : Int32) < nI (f k) by rw [tI_lt, m1_toInt, tI_n (by omega)]; omega)
        | some a =>
          have := lt k a g
          exact maxI (by omega) (by omega)
      rw [st]
  · unfold mX6_highest_b4
    simp only []
    rw [if_pos (show (24 : Int32) ≤ nI 24 by decide +kernel)]
theorem min_cut {m N : Nat} {f : Nat → Nat} (hm : m < 2 ^ N) : ∀ n, N ≤ n → minO m.testBit f n = minO m.testBit f N
  | 0, h => by rw [show N = 0 by omega]
  | n + 1, h => by
    rcases Nat.eq_or_lt_of_le h with e | e
    · rw [e]
    · rw [minO_f (by cases g : m.testBit n with | false => rfl | true => have := bit_lt hm g; omega), min_cut hm n (by omega)]
theorem max_cut {m N : Nat} {f : Nat → Nat} (hm : m < 2 ^ N) : ∀ n, N ≤ n → maxO m.testBit f n = maxO m.testBit f N
  | 0, h => by rw [show N = 0 by omega]
  | n + 1, h => by
    rcases Nat.eq_or_lt_of_le h with e | e
    · rw [e]
    · rw [maxO_f (by cases g : m.testBit n with | false => rfl | true => have := bit_lt hm g; omega), max_cut hm n (by omega)]
theorem bound9 {F N m : Nat} {f : Nat → Nat} {x y : Nat → Int32} {ox : Int32} (hF : 1000 ≤ F) (hN : N ≤ 24) (hm : m < 2 ^ N) (hr : ∀ i, i < N → (if ox = 0 then y i else x i) = nI (f i) ∧ f i < 1024) :
    mX9_bound F (nI m) ox 1 (nI N) x y = some (oI (minO m.testBit f N)) ∧ mX9_bound F (nI m) ox 0 (nI N) x y = some (oI (maxO m.testBit f N)) := by
  have hm31 := lt31 hm hN
  have hb : ∀ (l c : Int32) k, k < N → mX9_bound_b6 F (nI m) ox l (nI N) x y c (nI k) = if m.testBit k = true then mX9_bound_j49 F l c (nI k) (nI (f k)) else some (.inl (c, nI (k + 1))) := by
    intro l c k hk
    have ⟨q1, q2⟩ := hr k hk
    unfold mX9_bound_b6
    rw [if_neg (by rw [nI_leE (by omega) (by omega)]; omega), has9b F hm31 (by omega), Option.bind_some, nI_1]
    cases m.testBit k with
    | false => rw [if_pos (by rw [k0F]; trivial), if_neg (by decide)]
    | true =>
      rw [if_neg (by rw [k0T]; exact id), if_pos rfl]
      by_cases o : ox = 0
      · rw [if_pos o] at q1
        rw [if_pos o, rdI_n (by omega) (by omega), Option.bind_some, q1]
      · rw [if_neg o] at q1
        rw [if_neg o, rdI_n (by omega) (by omega), Option.bind_some, q1]
  have he : ∀ (l c : Int32), mX9_bound_b6 F (nI m) ox l (nI N) x y c (nI N) = some (.inr c) := by
    intro l c
    unfold mX9_bound_b6
    rw [if_pos (by rw [nI_leE (by omega) (by omega)]; omega)]
  constructor
  · have lt : ∀ k, k ≤ N → ∀ b, minO m.testBit f k = some b → b < 1024 := fun k hk b e => minO_bd (fun i hi _ => (hr i (by omega)).2) e
    unfold mX9_bound
    refine lp (fun k => (oI (minO m.testBit f k), nI k)) 0 N _ (by omega) rfl (fun k _ hk => ?_) (he _ _) (by omega)
    simp only []
    rw [hb _ _ k hk]
    have ⟨q1, q2⟩ := hr k hk
    cases e : m.testBit k with
    | false => rw [if_neg (by decide), minO_f e]
    | true =>
      rw [if_pos rfl, minO_t e]
      cases g : minO m.testBit f k with
      | none =>
        show mX9_bound_j49 F 1 (-1) (nI k) (nI (f k)) = some (.inl (nI (f k), nI (k + 1)))
        unfold mX9_bound_j49
        rw [if_pos rfl, nI_1]
      | some a =>
        have := lt k (by omega) a g
        show mX9_bound_j49 F 1 (nI a) (nI k) (nI (f k)) = some (.inl (nI (min a (f k)), nI (k + 1)))
        unfold mX9_bound_j49
        rw [if_neg (show ¬ nI a = -1 by rw [nI_m1 (by omega)]; exact id), if_neg (show ¬ (1 : Int32) = 0 by decide +kernel), nI_1]
        by_cases c : a ≤ f k
        · rw [if_pos ((nI_leI (by omega) (by omega)).mpr c), Nat.min_eq_left c]
        · rw [if_neg (fun q => c ((nI_leI (by omega) (by omega)).mp q)), Nat.min_eq_right (by omega)]
  · have lt : ∀ k, k ≤ N → ∀ b, maxO m.testBit f k = some b → b < 1024 := fun k hk b e => maxO_bd (fun i hi _ => (hr i (by omega)).2) e
    unfold mX9_bound
    refine lp (fun k => (oI (maxO m.testBit f k), nI k)) 0 N _ (by omega) rfl (fun k _ hk => ?_) (he _ _) (by omega)
    simp only []
    rw [hb _ _ k hk]
    have ⟨q1, q2⟩ := hr k hk
    cases e : m.testBit k with
    | false => rw [if_neg (by decide), maxO_f e]
    | true =>
      rw [if_pos rfl, maxO_t e]
      cases g : maxO m.testBit f k with
      | none =>
        show mX9_bound_j49 F 0 (-1) (nI k) (nI (f k)) = some (.inl (nI (f k), nI (k + 1)))
        unfold mX9_bound_j49
        rw [if_pos rfl, nI_1]
      | some a =>
        have := lt k (by omega) a g
        show mX9_bound_j49 F 0 (nI a) (nI k) (nI (f k)) = some (.inl (nI (max a (f k)), nI (k + 1)))
        unfold mX9_bound_j49
        rw [if_neg (show ¬ nI a = -1 by rw [nI_m1 (by omega)]; exact id), if_pos rfl, nI_1]
        by_cases c : f k ≤ a
        · rw [if_pos ((nI_leI (by omega) (by omega)).mpr c), Nat.max_eq_left c]
        · rw [if_neg (fun q => c ((nI_leI (by omega) (by omega)).mp q)), Nat.max_eq_right (by omega)]
theorem into9 {F N z m : Nat} {X Y : Nat → Nat} (hF : 1000 ≤ F) (hN : N ≤ 24) (hI : IN N X Y) (hz : z < 10) (hm : m < 2 ^ 31) {aj ap first made one other second wide : Nat → Int32} (h : TR9 X Y N aj ap first made one other second wide) (part : Nat → Int32) :
    ∃ t, mX9_splitsInto F (nI z) (nI m) (nI N) made part wide = some (nI (cntB (inQ m (szB X Y N (z + 1))) N), t) := by
  obtain ⟨t, e, g⟩ := laysZoom9p (F := F) hF hN hI hz h part
  have hS := szB_part (X := X) (Y := Y) (z := z + 1) hN
  refine ⟨t, ?_⟩
  unfold mX9_splitsInto
  rw [if_neg (show ¬ nI z = (10 : Int32) by rw [c10, nI_eqE (by omega) (by omega)]; omega), e, Option.bind_some]
  generalize szB X Y N (z + 1) = s at hS g ⊢
  refine lp (fun k => (nI (cntB (inQ m s) k), nI k)) 0 N _ (by omega) rfl (fun k _ hk => ?_) ?_ (by omega)
  · have f := isFirst9 (F := F) hF hN hS g hk
    unfold mX9_splitsInto_b20
    simp only []
    rw [if_neg (by rw [nI_leE (by omega) (by omega)]; omega), has9b F hm (by omega), Option.bind_some, nI_1, show cntB (inQ m s) (k + 1) = cntB (inQ m s) k + (if inQ m s k = true then 1 else 0) from rfl]
    cases e1 : m.testBit k with
    | false =>
      have eq : inQ m s k = false := by unfold inQ; rw [e1, Bool.and_false]
      rw [if_pos (by rw [k0F]; trivial), eq]; rfl
    | true =>
      rw [if_neg (by rw [k0T]; exact id), f, Option.bind_some]
      cases e2 : hdB s k with
      | false =>
        have eq : inQ m s k = false := by unfold inQ; rw [e2]; rfl
        rw [if_pos (by rw [k0F]; trivial), eq]; rfl
      | true =>
        have eq : inQ m s k = true := by unfold inQ; rw [e1, e2]; rfl
        rw [if_neg (by rw [k0T]; exact id), Option.bind_some, eq, nI_1]; rfl
  · unfold mX9_splitsInto_b20
    simp only []
    rw [if_pos (by rw [nI_leE (by omega) (by omega)]; omega)]
theorem call_group {F : Nat} (hF : 5000 ≤ F) : Call_group F INV := by
  intro ca cl ci fr a1 a2 a3 h
  have h0 := h
  obtain ⟨N, M, S, X, Y, W, U, V, Z, ⟨g1, g2, g3, g4, g5, g6⟩, ⟨i8, i9, i15, i2, i3, i18, i19⟩, ⟨r1, r2, r3⟩, h4, h5, h6, h7⟩ := h
  have hN := g1.1
  rcases zm_or a1 with ⟨z, hz, rfl, z1, z2⟩ | hz
  · have hS := szB_part (X := X) (Y := Y) (z := z) hN
    obtain ⟨r, er, gr⟩ := cuts8 (F := F) (by omega) g1 r1 h4 hz i8 i9 a2 (ci 11) (ca 38) (ca 39) (ca 40) (ca 41) (ca 42)
    obtain ⟨t, e, gt⟩ := groupSet9 (F := F) (by omega) hN g1.2.1 hz h6 (ca 68) a2
    rw [← i15] at e
    rcases gs_or hN hS a2 with ⟨p, p1, p2, p3, p4, p5, p6⟩ | ⟨p1, p2⟩
    · have ⟨q24, q0'⟩ := part_24 hN hS p1
      have ⟨pb, pN, _⟩ := hS p p1
      have ixl := ix_lt (s := szB X Y N z) (p := p)
      rw [decide_eq_true ⟨p5, p6⟩] at er
      rw [p4] at e
      have n0 : ¬ nI (szB X Y N z p) = 0 := by rw [nI_eq0 (by omega)]; exact q0'
      have sc := gr.2.1 p p1 p2
      have hw1 := wtB_pos pb (g1.2.2.1 p p1).1 N p1
      have m31 : szB X Y N z p < 2 ^ 31 := by omega
      have cn9 := centre9 (F := F) (by omega) g1 r2 m31 hw1
      have lx := low6 (F := F) (f := X) (row := ca 27) (by omega) hN pN (fun i hi => ⟨(r1 i hi).2.1, (g1.2.1 i hi).1⟩) q0'
      have ly := low6 (F := F) (f := Y) (row := ca 28) (by omega) hN pN (fun i hi => ⟨(r1 i hi).2.2, (g1.2.1 i hi).2⟩) q0'
      have hx := high6 (F := F) (f := X) (row := ca 27) (by omega) hN pN (fun i hi => ⟨(r1 i hi).2.1, (g1.2.1 i hi).1⟩)
      have hy := high6 (F := F) (f := Y) (row := ca 28) (by omega) hN pN (fun i hi => ⟨(r1 i hi).2.2, (g1.2.1 i hi).2⟩)
      rw [min_cut pN 24 hN] at lx ly
      rw [max_cut pN 24 hN] at hx hy
      have bx := bound9 (F := F) (f := X) (x := ca 81) (y := ca 82) (ox := 1) (by omega) hN pN (fun i hi => ⟨by rw [if_neg (by decide +kernel)]; exact (r2 i hi).2.1, (g1.2.1 i hi).1⟩)
      have bY := bound9 (F := F) (f := Y) (x := ca 81) (y := ca 82) (ox := 0) (by omega) hN pN (fun i hi => ⟨by rw [if_pos rfl]; exact (r2 i hi).2.2, (g1.2.1 i hi).2⟩)
      have hv4 := heavy4 (F := F) (by omega) hN m31 (fun i hi => ⟨(r1 i hi).1, g1.2.2.1 i hi⟩)
      have hv9 := heavy9 (F := F) (by omega) hN m31 (fun i hi => ⟨(r2 i hi).1, g1.2.2.1 i hi⟩)
      have mk2 := maker2 (F := F) (by omega) (show N - 1 ≤ 24 by omega) m31 (tr2_pm hN h4)
      have mk9 := maker9 (F := F) (by omega) hN m31 (tr9_pm hN h6)
      have wd4 := wide4 (F := F) (by omega) hN (rows_pt r1) g1.2.1 m31
      have wd9 := wide9 (F := F) (by omega) hN (rows_pt r2) g1.2.1 m31
      have ls6 := least6s (F := F) (by omega) q24 q0'
      have ls9 := least9s (F := F) (by omega) q24 q0'
      have b6 := bitCnt_n q24
      have b9 := bits9 (F := F) (by omega) m31
      have w9 := weight9 (F := F) (by omega) hN m31 (rows_w r2)
      by_cases q0 : a3 = 0
      · subst q0
        refine ⟨?r8_0, ?r9_0, ?e8_0, ?e9_0, ?rest_0⟩
        case e8_0 =>
          unfold mX8_group
          rw [er, Option.bind_some, if_neg (by rw [k0T]; exact id), p3, rdI_n (by omega) (by omega), Option.bind_some, sc.1, if_pos rfl, ls6, Option.bind_some]
        case e9_0 =>
          unfold mX9_group
          rw [e, Option.bind_some, if_neg n0, if_pos rfl, ls9, Option.bind_some]
        case rest_0 => exact ⟨rfl, h0⟩
      · have _ := q0
        by_cases q1 : a3 = 1
        · subst q1
          refine ⟨?r8_1, ?r9_1, ?e8_1, ?e9_1, ?rest_1⟩
          case e8_1 =>
            unfold mX8_group
            rw [er, Option.bind_some, if_neg (by rw [k0T]; exact id), p3, rdI_n (by omega) (by omega), Option.bind_some, sc.1, if_neg q0, if_pos rfl, b6, Option.bind_some]
          case e9_1 =>
            unfold mX9_group
            rw [e, Option.bind_some, if_neg n0, if_neg q0, if_pos rfl, b9, Option.bind_some]
          case rest_1 => exact ⟨rfl, h0⟩
        · have _ := q1
          by_cases q2 : a3 = 2
          · subst q2
            refine ⟨?r8_2, ?r9_2, ?e8_2, ?e9_2, ?rest_2⟩
            case e8_2 =>
              unfold mX8_group
              rw [er, Option.bind_some, if_neg (by rw [k0T]; exact id), p3, rdI_n (by omega) (by omega), Option.bind_some, sc.1, if_neg q0, if_neg q1, if_pos rfl, rdI_n (by omega) (by omega), Option.bind_some, sc.2.1]
            case e9_2 =>
              unfold mX9_group
              rw [e, Option.bind_some, if_neg n0, if_neg q0, if_neg q1, if_pos rfl, i15, w9, Option.bind_some]
            case rest_2 => exact ⟨rfl, h0⟩
          · have _ := q2
            by_cases q3 : a3 = 3
            · subst q3
              refine ⟨?r8_3, ?r9_3, ?e8_3, ?e9_3, ?rest_3⟩
              case e8_3 =>
                unfold mX8_group
                rw [er, Option.bind_some, if_neg (by rw [k0T]; exact id), p3, rdI_n (by omega) (by omega), Option.bind_some, sc.1, if_neg q0, if_neg q1, if_neg q2, if_pos rfl, lx, Option.bind_some]
              case e9_3 =>
                unfold mX9_group
                rw [e, Option.bind_some, if_neg n0, if_neg q0, if_neg q1, if_neg q2, if_pos rfl, if_pos rfl, i15, bx.1, Option.bind_some]
              case rest_3 => exact ⟨rfl, h0⟩
            · have _ := q3
              by_cases q4 : a3 = 4
              · subst q4
                refine ⟨?r8_4, ?r9_4, ?e8_4, ?e9_4, ?rest_4⟩
                case e8_4 =>
                  unfold mX8_group
                  rw [er, Option.bind_some, if_neg (by rw [k0T]; exact id), p3, rdI_n (by omega) (by omega), Option.bind_some, sc.1, if_neg q0, if_neg q1, if_neg q2, if_neg q3, if_pos rfl, hx, Option.bind_some]
                case e9_4 =>
                  unfold mX9_group
                  rw [e, Option.bind_some, if_neg n0, if_neg q0, if_neg q1, if_neg q2, if_neg q3, if_pos rfl, if_neg q3, i15, bx.2, Option.bind_some]
                case rest_4 => exact ⟨rfl, h0⟩
              · have _ := q4
                by_cases q5 : a3 = 5
                · subst q5
                  refine ⟨?r8_5, ?r9_5, ?e8_5, ?e9_5, ?rest_5⟩
                  case e8_5 =>
                    unfold mX8_group
                    rw [er, Option.bind_some, if_neg (by rw [k0T]; exact id), p3, rdI_n (by omega) (by omega), Option.bind_some, sc.1, if_neg q0, if_neg q1, if_neg q2, if_neg q3, if_neg q4, if_pos rfl, ly, Option.bind_some]
                  case e9_5 =>
                    unfold mX9_group
                    rw [e, Option.bind_some, if_neg n0, if_neg q0, if_neg q1, if_neg q2, if_neg q3, if_neg q4, if_pos rfl, if_pos rfl, i15, bY.1, Option.bind_some]
                  case rest_5 => exact ⟨rfl, h0⟩
                · have _ := q5
                  by_cases q6 : a3 = 6
                  · subst q6
                    refine ⟨?r8_6, ?r9_6, ?e8_6, ?e9_6, ?rest_6⟩
                    case e8_6 =>
                      unfold mX8_group
                      rw [er, Option.bind_some, if_neg (by rw [k0T]; exact id), p3, rdI_n (by omega) (by omega), Option.bind_some, sc.1, if_neg q0, if_neg q1, if_neg q2, if_neg q3, if_neg q4, if_neg q5, if_pos rfl, hy, Option.bind_some]
                    case e9_6 =>
                      unfold mX9_group
                      rw [e, Option.bind_some, if_neg n0, if_neg q0, if_neg q1, if_neg q2, if_neg q3, if_neg q4, if_neg q5, if_pos rfl, if_neg q5, i15, bY.2, Option.bind_some]
                    case rest_6 => exact ⟨rfl, h0⟩
                  · have _ := q6
                    by_cases q7 : a3 = 7
                    · subst q7
                      refine ⟨?r8_7, ?r9_7, ?e8_7, ?e9_7, ?rest_7⟩
                      case e8_7 =>
                        unfold mX8_group
                        rw [er, Option.bind_some, if_neg (by rw [k0T]; exact id), p3, rdI_n (by omega) (by omega), Option.bind_some, sc.1, if_neg q0, if_neg q1, if_neg q2, if_neg q3, if_neg q4, if_neg q5, if_neg q6, if_pos rfl, rdI_n (by omega) (by omega), Option.bind_some, sc.2.2.1]
                      case e9_7 =>
                        unfold mX9_group
                        rw [e, Option.bind_some, if_neg n0, if_neg q0, if_neg q1, if_neg q2, if_neg q3, if_neg q4, if_neg q5, if_neg q6, if_pos rfl, if_pos rfl, i15, cn9.1, Option.bind_some]
                      case rest_7 => exact ⟨rfl, h0⟩
                    · have _ := q7
                      by_cases q8 : a3 = 8
                      · subst q8
                        refine ⟨?r8_8, ?r9_8, ?e8_8, ?e9_8, ?rest_8⟩
                        case e8_8 =>
                          unfold mX8_group
                          rw [er, Option.bind_some, if_neg (by rw [k0T]; exact id), p3, rdI_n (by omega) (by omega), Option.bind_some, sc.1, if_neg q0, if_neg q1, if_neg q2, if_neg q3, if_neg q4, if_neg q5, if_neg q6, if_neg q7, if_pos rfl, rdI_n (by omega) (by omega), Option.bind_some, sc.2.2.2]
                        case e9_8 =>
                          unfold mX9_group
                          rw [e, Option.bind_some, if_neg n0, if_neg q0, if_neg q1, if_neg q2, if_neg q3, if_neg q4, if_neg q5, if_neg q6, if_neg q7, if_pos rfl, if_neg q7, i15, cn9.2, Option.bind_some]
                        case rest_8 => exact ⟨rfl, h0⟩
                      · have _ := q8
                        by_cases q9 : a3 = 9
                        · subst q9
                          refine ⟨?r8_9, ?r9_9, ?e8_9, ?e9_9, ?rest_9⟩
                          case e8_9 =>
                            unfold mX8_group
                            rw [er, Option.bind_some, if_neg (by rw [k0T]; exact id), p3, rdI_n (by omega) (by omega), Option.bind_some, sc.1, if_neg q0, if_neg q1, if_neg q2, if_neg q3, if_neg q4, if_neg q5, if_neg q6, if_neg q7, if_neg q8, if_pos rfl, i9, hv4, Option.bind_some]
                          case e9_9 =>
                            unfold mX9_group
                            rw [e, Option.bind_some, if_neg n0, if_neg q0, if_neg q1, if_neg q2, if_neg q3, if_neg q4, if_neg q5, if_neg q6, if_neg q7, if_neg q8, if_pos rfl, i15, hv9, Option.bind_some]
                          case rest_9 => exact ⟨rfl, h0⟩
                        · have _ := q9
                          by_cases q10 : a3 = 10
                          · subst q10
                            refine ⟨?r8_10, ?r9_10, ?e8_10, ?e9_10, ?rest_10⟩
                            case e8_10 =>
                              unfold mX8_group
                              rw [er, Option.bind_some, if_neg (by rw [k0T]; exact id), p3, rdI_n (by omega) (by omega), Option.bind_some, sc.1, if_neg q0, if_neg q1, if_neg q2, if_neg q3, if_neg q4, if_neg q5, if_neg q6, if_neg q7, if_neg q8, if_neg q9, if_pos rfl, i8, mk2, Option.bind_some]
                            case e9_10 =>
                              unfold mX9_group
                              rw [e, Option.bind_some, if_neg n0, if_neg q0, if_neg q1, if_neg q2, if_neg q3, if_neg q4, if_neg q5, if_neg q6, if_neg q7, if_neg q8, if_neg q9, if_pos rfl, i15, mk9, Option.bind_some]
                            case rest_10 => exact ⟨rfl, h0⟩
                          · have _ := q10
                            by_cases q11 : a3 = 11
                            · subst q11
                              by_cases e10 : z = 10
                              · subst e10
                                refine ⟨?r8_11, ?r9_11, ?e8_11, ?e9_11, ?rest_11⟩
                                case e8_11 =>
                                  unfold mX8_group mX8_countSplits
                                  rw [er, Option.bind_some, if_neg (by rw [k0T]; exact id), p3, rdI_n (by omega) (by omega), Option.bind_some, sc.1, if_neg q0, if_neg q1, if_neg q2, if_neg q3, if_neg q4, if_neg q5, if_neg q6, if_neg q7, if_neg q8, if_neg q9, if_neg q10, if_pos rfl, if_neg (show ¬ nI 10 < (10 : Int32) by decide +kernel), Option.bind_some]
                                case e9_11 =>
                                  unfold mX9_group mX9_splitsInto
                                  rw [e, Option.bind_some, if_neg n0, if_neg q0, if_neg q1, if_neg q2, if_neg q3, if_neg q4, if_neg q5, if_neg q6, if_neg q7, if_neg q8, if_neg q9, if_neg q10, if_pos rfl, if_pos (show nI 10 = (10 : Int32) from rfl), Option.bind_some]
                                case rest_11 => exact ⟨rfl, h0⟩
                              · have hS2 := szB_part (X := X) (Y := Y) (z := z + 1) hN
                                obtain ⟨u, eu, gu⟩ := cutZ (F := F) (by omega) g1 r1 h4 (show z + 1 ≤ 10 by omega) i8 i9 (ci 10) (ca 32) (ca 33) (ca 34) (ca 35) (ca 36)
                                rw [← nI_1] at eu
                                obtain ⟨P, eP, hP⟩ := within5 (F := F) (m := szB X Y N z p) (Q := fun q => (szB X Y N z p).testBit q) (by omega) hN hS2 gu (fun q hq _ => sz_in hN hq p1)
                                obtain ⟨t2, i9'⟩ := into9 (F := F) (by omega) hN g1.2.1 (show z < 10 by omega) m31 h6 t
                                rw [← i15] at i9'
                                have be := bits_en hN hP
                                refine ⟨?r8_13, ?r9_13, ?e8_13, ?e9_13, ?rest_13⟩
                                case e8_13 =>
                                  unfold mX8_group mX8_countSplits
                                  rw [er, Option.bind_some, if_neg (by rw [k0T]; exact id), p3, rdI_n (by omega) (by omega), Option.bind_some, sc.1, if_neg q0, if_neg q1, if_neg q2, if_neg q3, if_neg q4, if_neg q5, if_neg q6, if_neg q7, if_neg q8, if_neg q9, if_neg q10, if_pos rfl, if_pos (show nI z < (10 : Int32) by rw [c10, nI_ltE (by omega) (by omega)]; omega), eu, Option.bind_some, eP, Option.bind_some, be, Option.bind_some, Option.bind_some]
                                case e9_13 =>
                                  unfold mX9_group
                                  rw [e, Option.bind_some, if_neg n0, if_neg q0, if_neg q1, if_neg q2, if_neg q3, if_neg q4, if_neg q5, if_neg q6, if_neg q7, if_neg q8, if_neg q9, if_neg q10, if_pos rfl, i9', Option.bind_some]
                                case rest_13 => exact ⟨rfl, h0⟩
                            · have _ := q11
                              by_cases q12 : a3 = 12
                              · subst q12
                                refine ⟨?r8_12, ?r9_12, ?e8_12, ?e9_12, ?rest_12⟩
                                case e8_12 =>
                                  unfold mX8_group
                                  rw [er, Option.bind_some, if_neg (by rw [k0T]; exact id), p3, rdI_n (by omega) (by omega), Option.bind_some, sc.1, if_neg q0, if_neg q1, if_neg q2, if_neg q3, if_neg q4, if_neg q5, if_neg q6, if_neg q7, if_neg q8, if_neg q9, if_neg q10, if_neg q11, if_pos rfl, i9, wd4, Option.bind_some]
                                case e9_12 =>
                                  unfold mX9_group
                                  rw [e, Option.bind_some, if_neg n0, if_neg q0, if_neg q1, if_neg q2, if_neg q3, if_neg q4, if_neg q5, if_neg q6, if_neg q7, if_neg q8, if_neg q9, if_neg q10, if_neg q11, if_pos rfl, i15, wd9, Option.bind_some]
                                case rest_12 => exact ⟨rfl, h0⟩
                              · have _ := q12
                                refine ⟨?r8_d, ?r9_d, ?e8_d, ?e9_d, ?rest_d⟩
                                case e8_d =>
                                  unfold mX8_group
                                  rw [er, Option.bind_some, if_neg (by rw [k0T]; exact id), p3, rdI_n (by omega) (by omega), Option.bind_some, sc.1, if_neg q0, if_neg q1, if_neg q2, if_neg q3, if_neg q4, if_neg q5, if_neg q6, if_neg q7, if_neg q8, if_neg q9, if_neg q10, if_neg q11, if_neg q12]
                                case e9_d =>
                                  unfold mX9_group
                                  rw [e, Option.bind_some, if_neg n0, if_neg q0, if_neg q1, if_neg q2, if_neg q3, if_neg q4, if_neg q5, if_neg q6, if_neg q7, if_neg q8, if_neg q9, if_neg q10, if_neg q11, if_neg q12]
                                case rest_d => exact ⟨rfl, h0⟩
    · rw [decide_eq_false (by omega)] at er
      rw [p2] at e
      refine ⟨?r8b, ?r9b, ?e8b, ?e9b, ?restb⟩
      case e8b =>
        unfold mX8_group
        rw [er, Option.bind_some, if_pos (by rw [k0F]; trivial)]
      case e9b =>
        unfold mX9_group
        rw [e, Option.bind_some, if_pos (show nI 0 = (0 : Int32) from rfl)]
      case restb => exact ⟨rfl, h0⟩
  · refine ⟨?r8c, ?r9c, ?e8c, ?e9c, ?restc⟩
    case e8c =>
      unfold mX8_group mX8_cutsGroup
      rw [isZoom8, decide_eq_false hz, Option.bind_some, if_pos (by rw [k0F]; trivial), Option.bind_some, if_pos rfl]
    case e9c =>
      unfold mX9_group mX9_groupSet
      rw [isZoom9, decide_eq_false hz, Option.bind_some, if_pos (by rw [k0F]; trivial), Option.bind_some, if_pos rfl]
    case restc => exact ⟨rfl, h0⟩
