/-! ===== PURE 30: calls filled, densest ===== -/
theorem rad_pow {z : Nat} (hz : z ≤ 10) : rad z = 2 ^ (10 - z) := by
  unfold rad
  have h : 2 ^ z * 2 ^ (10 - z) = 1024 := by
    rw [← Nat.pow_add, show z + (10 - z) = 10 by omega]
  rw [← h, Nat.mul_div_cancel_left _ (Nat.two_pow_pos z)]
theorem rad_pos {z : Nat} (hz : z ≤ 10) : 1 ≤ rad z := by rw [rad_pow hz]; exact Nat.one_le_two_pow
/-- the number of the tile of a point -/
def tnB (X Y : Nat → Nat) (z p : Nat) : Nat := 1024 * (Y p / rad z) + X p / rad z
theorem tn_lt {N z p : Nat} {X Y : Nat → Nat} (hI : IN N X Y) (hp : p < N) : tnB X Y z p < 1048576 := by
  have ⟨a, b⟩ := hI p hp
  have c := Nat.div_le_self (Y p) (rad z)
  have d := Nat.div_le_self (X p) (rad z)
  unfold tnB
  omega
/-- the next tile behind -/
def nxB (E : Nat → Nat) (N : Nat) (v : Int32) : Option Nat := minO (fun i => decide (v < nI (E i))) E N
theorem next8 {F N : Nat} {E : Nat → Nat} {row : Nat → Int32} (hF : 1000 ≤ F) (hN : N ≤ 24) (hE : ∀ i, i < N → row i = nI (E i) ∧ E i < 1048576) (v : Int32) : mX8_nextInRow F v (nI N) row = some (oI (nxB E N v)) := by
  unfold mX8_nextInRow
  refine lp (fun k => (oI (minO (fun i => decide (v < nI (E i))) E k), nI k)) 0 N _ (by omega) rfl (fun k _ hk => ?_) ?_ (by omega)
  · have ⟨q1, q2⟩ := hE k hk
    have hle : ¬ nI N ≤ nI k := by rw [nI_leE (by omega) (by omega)]; omega
    by_cases c : v < nI (E k)
    · have c2 : ¬ nI (E k) ≤ v := Int32.not_le.mpr c
      rw [minO_t (p := fun i => decide (v < nI (E i))) (decide_eq_true c)]
      cases g : minO (fun i => decide (v < nI (E i))) E k with
      | none =>
        show mX8_nextInRow_b5 F v (nI N) row (-1) (nI k) = some (.inl (nI (E k), nI (k + 1)))
        unfold mX8_nextInRow_b5
        rw [if_neg hle, rdI_n (by omega) (by omega), Option.bind_some, q1, if_neg c2, if_pos rfl, Option.bind_some, nI_1]
      | some a =>
        have la := minO_bd (c := 1048576) (fun i hi _ => (hE i (by omega)).2) g
        show mX8_nextInRow_b5 F v (nI N) row (nI a) (nI k) = some (.inl (nI (min a (E k)), nI (k + 1)))
        unfold mX8_nextInRow_b5
        rw [if_neg hle, rdI_n (by omega) (by omega), Option.bind_some, q1, if_neg c2, if_neg (show ¬ nI a = -1 by rw [nI_m1 (by omega)]; exact id), Option.bind_some, Option.bind_some, nI_1]
        by_cases d : a ≤ E k
        · rw [if_pos ((nI_leI (by omega) (by omega)).mpr d), Nat.min_eq_left d]
        · rw [if_neg (fun q => d ((nI_leI (by omega) (by omega)).mp q)), Nat.min_eq_right (by omega)]
    · rw [minO_f (p := fun i => decide (v < nI (E i))) (decide_eq_false c)]
      unfold mX8_nextInRow_b5
      simp only []
      rw [if_neg hle, rdI_n (by omega) (by omega), Option.bind_some, q1, if_pos (Int32.not_lt.mp c), nI_1]
  · unfold mX8_nextInRow_b5
    simp only []
    rw [if_pos (by rw [nI_leE (by omega) (by omega)]; omega)]
    rfl
theorem next9 {F N z : Nat} {X Y : Nat → Nat} {xs ys : Nat → Int32} (hF : 1000 ≤ F) (hN : N ≤ 24) (hz : z ≤ 10) (hI : IN N X Y) (hP : PT N X Y xs ys) (v : Int32) :
    loop (fun s26 : Int32 × Int32 => mX9_filled_b26 F (nI z) (nI N) xs ys v s26.1 s26.2) F ((-1 : Int32), (0 : Int32)) = some (oI (nxB (tnB X Y z) N v)) := by
  refine lp (fun k => (oI (minO (fun i => decide (v < nI (tnB X Y z i))) (tnB X Y z) k), nI k)) 0 N _ (by omega) rfl (fun k _ hk => ?_) ?_ (by omega)
  · have ⟨p1, p2⟩ := hP k hk
    have ⟨i1, i2⟩ := hI k hk
    have q2 := tn_lt (z := z) hI hk
    have rl := rad_le z
    have rp := rad_pos hz
    have hle : ¬ nI N ≤ nI k := by rw [nI_leE (by omega) (by omega)]; omega
    have r0 : ¬ nI (rad z) = 0 := by rw [nI_eq0 (by omega)]; omega
    have ev : (1024 : Int32) * (nI (Y k) / nI (rad z)) + nI (X k) / nI (rad z) = nI (tnB X Y z k) := by
      rw [pk_div (by omega) (by omega) (by omega), pk_div (by omega) (by omega) (by omega), c1024, pk_mul, nI_add]
      rfl
    have pre : ∀ c : Int32, mX9_filled_b26 F (nI z) (nI N) xs ys v c (nI k) = if nI (tnB X Y z k) ≤ v then some (.inl (c, nI (k + 1))) else (if c = -1 then some (.inl (nI (tnB X Y z k), nI (k + 1))) else (if c ≤ nI (tnB X Y z k) then some (.inl (c, nI (k + 1))) else some (.inl (nI (tnB X Y z k), nI (k + 1))))) := by
      intro c
      unfold mX9_filled_b26
      rw [if_neg hle, rdI_n (by omega) (by omega), Option.bind_some, radius9 hz, Option.bind_some, if_neg r0, rdI_n (by omega) (by omega), Option.bind_some, Option.bind_some, if_neg r0, Option.bind_some, p1, p2, ev, nI_1]
    by_cases c : v < nI (tnB X Y z k)
    · have c2 : ¬ nI (tnB X Y z k) ≤ v := Int32.not_le.mpr c
      rw [minO_t (p := fun i => decide (v < nI (tnB X Y z i))) (decide_eq_true c)]
      cases g : minO (fun i => decide (v < nI (tnB X Y z i))) (tnB X Y z) k with
      | none =>
        show mX9_filled_b26 F (nI z) (nI N) xs ys v (-1) (nI k) = some (.inl (nI (tnB X Y z k), nI (k + 1)))
        rw [pre, if_neg c2, if_pos rfl]
      | some a =>
        have la := minO_bd (c := 1048576) (fun i hi _ => tn_lt (z := z) hI (show i < N by omega)) g
        show mX9_filled_b26 F (nI z) (nI N) xs ys v (nI a) (nI k) = some (.inl (nI (min a (tnB X Y z k)), nI (k + 1)))
        rw [pre, if_neg c2, if_neg (show ¬ nI a = -1 by rw [nI_m1 (by omega)]; exact id)]
        by_cases d : a ≤ tnB X Y z k
        · rw [if_pos ((nI_leI (by omega) (by omega)).mpr d), Nat.min_eq_left d]
        · rw [if_neg (fun q => d ((nI_leI (by omega) (by omega)).mp q)), Nat.min_eq_right (by omega)]
    · rw [minO_f (p := fun i => decide (v < nI (tnB X Y z i))) (decide_eq_false c)]
      simp only []
      rw [pre, if_pos (Int32.not_lt.mp c)]
  · unfold mX9_filled_b26
    simp only []
    rw [if_pos (by rw [nI_leE (by omega) (by omega)]; omega)]
    rfl
/-- the k-th filled tile: none ahead of all, and none behind all -/
def ftB (E : Nat → Nat) (N : Nat) : Nat → Option Nat
  | 0 => none
  | k + 1 => nxB E N (oI (ftB E N k))
theorem cnt_lt {p q : Nat → Bool} {i : Nat} : ∀ {n}, i < n → (∀ k, k < n → q k = true → p k = true) → p i = true → q i = false → cntB q n < cntB p n
  | 0, h, _, _, _ => by omega
  | n + 1, h, hs, hp, hq => by
    have le : ∀ m, m ≤ n + 1 → cntB q m ≤ cntB p m := by
      intro m
      induction m with
      | zero => intro _; exact Nat.le_refl _
      | succ m ih =>
        intro hm
        have := ih (by omega)
        simp only [cntB]
        cases e : q m with
        | false => simp; omega
        | true => rw [hs m (by omega) e]; simp; omega
    simp only [cntB]
    rcases Nat.lt_succ_iff_lt_or_eq.mp h with g | g
    · have ih := cnt_lt g (fun k hk => hs k (by omega)) hp hq
      cases e : q n with
      | false => simp; omega
      | true => rw [hs n (by omega) e]; simp; omega
    · subst g
      have := le i (by omega)
      rw [hp, hq]
      simp
      omega
theorem ft_end {E : Nat → Nat} {N : Nat} (hN : N ≤ 24) (hE : ∀ i, i < N → E i < 1048576) : ∃ c, c ≤ N ∧ ftB E N (c + 1) = none ∧ ∀ k, k < c → ∃ v, ftB E N (k + 1) = some v ∧ v < 1048576 := by
  have bd : ∀ k v, ftB E N (k + 1) = some v → v < 1048576 := fun k v h => minO_bd (fun i hi _ => hE i hi) h
  have key : ∀ k, (∀ j, j < k → ∃ v, ftB E N (j + 1) = some v) → cntB (fun i => decide (oI (ftB E N k) < nI (E i))) N + k ≤ N := by
    intro k
    induction k with
    | zero => intro _; have := cntB_le (fun i => decide (oI (ftB E N 0) < nI (E i))) N; omega
    | succ k ih =>
      intro h
      have a := ih (fun j hj => h j (by omega))
      obtain ⟨v, hv⟩ := h k (by omega)
      have lv := bd k v hv
      have ⟨⟨i, i1, i2, i3⟩, _⟩ := minO_some (p := fun i => decide (oI (ftB E N k) < nI (E i))) (f := E) (n := N) hv
      have l := cnt_lt (p := fun i => decide (oI (ftB E N k) < nI (E i))) (q := fun i => decide (oI (ftB E N (k + 1)) < nI (E i))) (i := i) (n := N) i1 (fun j hj hq => by
        rw [hv] at hq
        have q1 := of_decide_eq_true hq
        have q2 := of_decide_eq_true i2
        rw [i3] at q2
        exact decide_eq_true (Int32.lt_trans q2 q1)) i2 (by
        rw [hv, i3]
        exact decide_eq_false (fun q => by have q2 := tI_lt.mp q; exact absurd q2 (Int.lt_irrefl _)))
      omega
  cases e : fstB (fun k => decide (ftB E N (k + 1) = none)) (N + 1) with
  | some c =>
    have ⟨c1', c2', c3'⟩ := fstB_some.mp e
    refine ⟨c, by omega, of_decide_eq_true c2', fun k hk => ?_⟩
    have := of_decide_eq_false (c3' k hk)
    cases g : ftB E N (k + 1) with
    | none => exact absurd g this
    | some v => exact ⟨v, rfl, bd k v g⟩
  | none =>
    have h := fstB_none.mp e
    have := key (N + 1) (fun j hj => by
      have := of_decide_eq_false (h j hj)
      cases g : ftB E N (j + 1) with
      | none => exact absurd g this
      | some v => exact ⟨v, rfl⟩)
    omega
def flB (E : Nat → Nat) (N : Nat) (i : Int32) : Int32 := match fstB (fun k => decide (ftB E N (k + 1) = none) || decide (nI k = i)) (N + 1) with
  | some k => if ftB E N (k + 1) = none then (if i = -1 then nI k else -1) else oI (ftB E N (k + 1))
  | none => -1
theorem call_filled {F : Nat} (hF : 5000 ≤ F) : Call_filled F INV := by
  intro ca cl ci fr a1 a2 h
  have h0 := h
  obtain ⟨N, M, S, X, Y, W, U, V, Z, ⟨g1, g2, g3, g4, g5, g6⟩, ⟨i8, i9, i15, i2, i3, i18, i19⟩, ⟨r1, r2, r3⟩, h4, h5, h6, h7⟩ := h
  have hN := g1.1
  rcases zm_or a1 with ⟨z, hz, rfl, z1, z2⟩ | hz
  · have zd := decide_eq_true (p := 0 ≤ (nI z).toInt ∧ (nI z).toInt ≤ 10) ⟨z1, z2⟩
    have hE : ∀ i, i < N → tnB X Y z i < 1048576 := fun i hi => tn_lt g1.2.1 hi
    obtain ⟨c, c1', c2', c3'⟩ := ft_end (E := tnB X Y z) hN hE
    have hpc : ¬ ∀ i, i < N + 1 → (decide (ftB (tnB X Y z) N (i + 1) = none) || decide (nI i = a2)) = false := fun q => by
      have := q c (by omega)
      rw [decide_eq_true c2'] at this
      cases this
    have bd : ∀ k v, ftB (tnB X Y z) N (k + 1) = some v → v < 1048576 := fun k v h => minO_bd (fun i hi _ => hE i hi) h
    have e9 : mX9_filled F (nI z) a2 (ci 14) (ci 15) (ca 81) (ca 82) = some (flB (tnB X Y z) N a2, 0) := by
      unfold mX9_filled flB
      rw [isZoom9, zd, Option.bind_some, if_neg (by rw [k0T]; exact id), i15]
      refine (lpS (fun k => (nI k, oI (ftB (tnB X Y z) N k))) (fun k => decide (ftB (tnB X Y z) N (k + 1) = none) || decide (nI k = a2)) (N + 1) (fun k => ((if ftB (tnB X Y z) N (k + 1) = none then (if a2 = -1 then nI k else -1) else oI (ftB (tnB X Y z) N (k + 1))), (0 : Int32))) (-1, 0) rfl (fun k hk _ => ?_) (fun q => absurd q hpc) (by omega)).trans ?_
      · have nx := next9 (F := F) (by omega) hN hz g1.2.1 (rows_pt r2) (oI (ftB (tnB X Y z) N k))
        have nx2 : nxB (tnB X Y z) N (oI (ftB (tnB X Y z) N k)) = ftB (tnB X Y z) N (k + 1) := rfl
        rw [nx2] at nx
        unfold mX9_filled_b20
        simp only []
        rw [nx, Option.bind_some]
        cases g : ftB (tnB X Y z) N (k + 1) with
        | none =>
          rw [if_pos (show oI none = -1 from rfl), if_pos (show (decide (none = (none : Option Nat)) || decide (nI k = a2)) = true by simp), if_pos rfl]
          by_cases q : a2 = -1
          · rw [if_pos q, if_pos q]
          · rw [if_neg q, if_neg q]
        | some v =>
          have lv := bd k v g
          rw [if_neg (show ¬ oI (some v) = -1 by rw [show oI (some v) = nI v from rfl, nI_m1 (by omega)]; exact id), decide_eq_false (show ¬ (some v = (none : Option Nat)) by simp), Bool.false_or, if_neg (show ¬ (some v = (none : Option Nat)) by simp)]
          by_cases q : nI k = a2
          · rw [if_pos q, if_pos (decide_eq_true q)]
          · rw [if_neg q, Option.bind_some, if_neg (by rw [decide_eq_false q]; decide), nI_1]
      · cases fstB (fun k => decide (ftB (tnB X Y z) N (k + 1) = none) || decide (nI k = a2)) (N + 1) <;> rfl
    by_cases q2 : (-1 : Int32) ≤ a2
    · obtain ⟨row', er, gr⟩ := lpI (body := fun s31 : Int32 × (Nat → Int32) => mX8_filled_b31 F (nI N) (ca 27) (ca 28) (nI (10 - z)) s31.1 s31.2) (F := F) (fun k (t : Nat → Int32) => (nI k, t)) (fun k t => ∀ i, i < k → t i = nI (tnB X Y z i)) 0 N (fun t => t) (ca 37) (by omega) (s0 := ((0 : Int32), ca 37)) rfl
        (fun i hi => by omega) (fun k t _ hk hI2 => by
          have ⟨p0, p1, p2⟩ := r1 k hk
          have ⟨j1, j2⟩ := g1.2.1 k hk
          refine ⟨upd t k (nI (tnB X Y z k)), ?_, upd_all (g := fun k => nI (tnB X Y z k)) hI2 rfl⟩
          have ev : (1024 : Int32) * (nI (Y k) >>> (nI (10 - z) &&& 31)) + (nI (X k) >>> (nI (10 - z) &&& 31)) = nI (tnB X Y z k) := by
            rw [nI_shr (by omega) (by omega), nI_shr (by omega) (by omega), c1024, pk_mul, nI_add]
            unfold tnB
            rw [rad_pow hz]
          unfold mX8_filled_b31
          rw [if_neg (by rw [nI_leE (by omega) (by omega)]; omega), rdI_n (by omega) (by omega), Option.bind_some, rdI_n (by omega) (by omega), Option.bind_some, p1, p2, ev, wrI_n (by omega) (by omega), Option.bind_some, nI_1])
        (fun t hI2 => by
          unfold mX8_filled_b31
          rw [if_pos (by rw [nI_leE (by omega) (by omega)]; omega)]) (by omega)
      have e8 : mX8_filled F (nI z) a2 (ci 9) (ca 27) (ca 28) (ca 37) = some (flB (tnB X Y z) N a2, row') := by
        unfold mX8_filled flB
        have e10 : (10 : Int32) - nI z = nI (10 - z) := by rw [c10, pk_sub (by omega)]
        rw [isZoom8, zd, Option.bind_some, if_neg (by rw [k0T]; exact id), if_pos q2, e10, Option.bind_some, i9, er, Option.bind_some]
        refine (lpS (fun k => (oI (ftB (tnB X Y z) N k), nI k)) (fun k => decide (ftB (tnB X Y z) N (k + 1) = none) || decide (nI k = a2)) (N + 1) (fun k => ((if ftB (tnB X Y z) N (k + 1) = none then (if a2 = -1 then nI k else -1) else oI (ftB (tnB X Y z) N (k + 1))), row')) (-1, row') rfl (fun k hk _ => ?_) (fun q => absurd q hpc) (by omega)).trans ?_
        · have nx := next8 (F := F) (E := tnB X Y z) (row := row') (by omega) hN (fun i hi => ⟨gr i hi, hE i hi⟩) (oI (ftB (tnB X Y z) N k))
          have nx2 : nxB (tnB X Y z) N (oI (ftB (tnB X Y z) N k)) = ftB (tnB X Y z) N (k + 1) := rfl
          rw [nx2] at nx
          unfold mX8_filled_b84
          simp only []
          rw [if_neg (show ¬ nI N < nI k by rw [nI_ltE (by omega) (by omega)]; omega), nx, Option.bind_some]
          cases g : ftB (tnB X Y z) N (k + 1) with
          | none =>
            rw [if_pos (show oI none = -1 from rfl), if_pos (show (decide (none = (none : Option Nat)) || decide (nI k = a2)) = true by simp), if_pos rfl]
            by_cases q : a2 = -1
            · rw [if_pos q, if_pos q]
            · rw [if_neg q, if_neg q]
          | some v =>
            have lv := bd k v g
            rw [if_neg (show ¬ oI (some v) = -1 by rw [show oI (some v) = nI v from rfl, nI_m1 (by omega)]; exact id), decide_eq_false (show ¬ (some v = (none : Option Nat)) by simp), Bool.false_or, if_neg (show ¬ (some v = (none : Option Nat)) by simp)]
            by_cases q : nI k = a2
            · rw [if_pos q, if_pos (decide_eq_true q)]
            · rw [if_neg q, if_neg (by rw [decide_eq_false q]; decide), nI_1]
        · cases fstB (fun k => decide (ftB (tnB X Y z) N (k + 1) = none) || decide (nI k = a2)) (N + 1) <;> rfl
      exact ⟨_, _, e8, e9, rfl, h0⟩
    · have e8 : mX8_filled F (nI z) a2 (ci 9) (ca 27) (ca 28) (ca 37) = some (-1, ca 37) := by
        unfold mX8_filled
        rw [isZoom8, zd, Option.bind_some, if_neg (by rw [k0T]; exact id), if_neg q2]
      have hv : flB (tnB X Y z) N a2 = -1 := by
        rw [tI_le, m1_toInt] at q2
        have ne : ∀ k, k < N + 1 → decide (nI k = a2) = false := fun k hk => decide_eq_false (fun q => by rw [← q, tI_n (by omega)] at q2; omega)
        have ef : fstB (fun k => decide (ftB (tnB X Y z) N (k + 1) = none) || decide (nI k = a2)) (N + 1) = some c := fstB_some.mpr ⟨by omega, by rw [decide_eq_true c2']; rfl, fun k hk => by
          obtain ⟨v, v1, _⟩ := c3' k hk
          rw [v1, ne k (by omega)]
          rfl⟩
        unfold flB
        rw [ef]
        simp only []
        rw [if_pos c2', if_neg (fun q => by rw [q, m1_toInt] at q2; omega)]
      rw [hv] at e9
      exact ⟨_, _, e8, e9, rfl, h0⟩
  · refine ⟨?r8c, ?r9c, ?e8c, ?e9c, ?restc⟩
    case e8c =>
      unfold mX8_filled
      rw [isZoom8, decide_eq_false hz, Option.bind_some, if_pos (by rw [k0F]; trivial)]
    case e9c =>
      unfold mX9_filled
      rw [isZoom9, decide_eq_false hz, Option.bind_some, if_pos (by rw [k0F]; trivial)]
    case restc => exact ⟨rfl, h0⟩
