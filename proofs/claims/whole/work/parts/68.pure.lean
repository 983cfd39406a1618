/-! ===== PURE 59: cover, tiles as whole numbers ===== -/
/-- whether a point is in a tile; the points of a tile -/
def inT (X Y : Nat → Nat) (z a b p : Nat) : Bool := decide (X p / rad z = a) && decide (Y p / rad z = b)
def tmB (X Y : Nat → Nat) (N z a b : Nat) : Nat := mkB (inT X Y z a b) N
theorem div_rng {x r a : Nat} (hr : 1 ≤ r) : (a * r ≤ x ∧ x ≤ a * r + r - 1) ↔ x / r = a := by
  have h := Nat.div_add_mod x r
  have m := Nat.mod_lt x (show r > 0 by omega)
  constructor
  · intro ⟨h1, h2⟩
    refine Nat.le_antisymm ?_ ?_
    · refine Nat.le_of_lt_succ ((Nat.div_lt_iff_lt_mul (by omega)).mpr ?_)
      rw [Nat.succ_mul]
      omega
    · exact (Nat.le_div_iff_mul_le (by omega)).mpr h1
  · intro e
    rw [e, Nat.mul_comm] at h
    omega
theorem tl_nat {N z a b : Nat} {X Y : Nat → Nat} {xs ys : Nat → Int32} (hP : PT N X Y xs ys) (hI : IN N X Y) (hz : z ≤ 10) (ha : a < 1024) (hb : b < 1024) : tlB z (nI a) (nI b) xs ys N = tmB X Y N z a b := by
  have r1 := rad_pos hz
  have r2 := rad_le z
  have ma : a * rad z ≤ 1023 * 1024 := Nat.mul_le_mul (by omega) r2
  have mb : b * rad z ≤ 1023 * 1024 := Nat.mul_le_mul (by omega) r2
  unfold tlB tmB
  rw [pk_mul, pk_mul, nI_add, nI_add, nI_s1 (by omega), nI_s1 (by omega)]
  refine mkB_congr (fun k hk => ?_)
  have ⟨p1, p2⟩ := hP k hk
  have ⟨q1, q2⟩ := hI k hk
  unfold inW inT
  rw [p1, p2, decide_eq_decide.mpr (show nI (a * rad z) ≤ nI (X k) ↔ a * rad z ≤ X k by rw [nI_leE (by omega) (by omega)]), decide_eq_decide.mpr (show nI (X k) ≤ nI (a * rad z + rad z - 1) ↔ X k ≤ a * rad z + rad z - 1 by rw [nI_leE (by omega) (by omega)]),
    decide_eq_decide.mpr (show nI (b * rad z) ≤ nI (Y k) ↔ b * rad z ≤ Y k by rw [nI_leE (by omega) (by omega)]), decide_eq_decide.mpr (show nI (Y k) ≤ nI (b * rad z + rad z - 1) ↔ Y k ≤ b * rad z + rad z - 1 by rw [nI_leE (by omega) (by omega)]),
    ← decide_eq_decide.mpr (div_rng (x := X k) (a := a) r1), ← decide_eq_decide.mpr (div_rng (x := Y k) (a := b) r1)]
  rw [Bool.decide_and, Bool.decide_and, Bool.and_assoc, Bool.and_assoc]
theorem tm_lt {X Y : Nat → Nat} {N z a b : Nat} (hN : N ≤ 24) : tmB X Y N z a b < 2 ^ 24 := mk24 hN
theorem tm_bit {X Y : Nat → Nat} {N z a b p : Nat} : (tmB X Y N z a b).testBit p = (decide (p < N) && inT X Y z a b p) := mkB_bit _ _ _
/-- the tile of a point -/
def otB (X Y : Nat → Nat) (N z p : Nat) : Nat := tmB X Y N z (X p / rad z) (Y p / rad z)
theorem ot_self {X Y : Nat → Nat} {N z p : Nat} (hp : p < N) : (otB X Y N z p).testBit p = true := by
  unfold otB
  rw [tm_bit, decide_eq_true hp]
  unfold inT
  rw [decide_eq_true rfl, decide_eq_true rfl]
  rfl
theorem ot_eq {X Y : Nat → Nat} {N z a b p : Nat} (h : inT X Y z a b p = true) : otB X Y N z p = tmB X Y N z a b := by
  unfold inT at h
  rw [Bool.and_eq_true] at h
  unfold otB
  rw [of_decide_eq_true h.1, of_decide_eq_true h.2]
/-- whether the tile of a point has none but points of a set -/
def sbB (X Y : Nat → Nat) (N S z p : Nat) : Bool := decide (nI (otB X Y N z p) &&& (nI S ^^^ (-1 : Int32)) = 0)
theorem sb_iff {X Y : Nat → Nat} {N S z p : Nat} (hN : N ≤ 24) : sbB X Y N S z p = true ↔ ∀ i, (otB X Y N z p).testBit i = true → S.testBit i = true := by
  unfold sbB
  have l : otB X Y N z p < 2 ^ 24 := tm_lt hN
  rw [decide_eq_true_iff, sub_mask (by omega)]
/-- the widest tile of a point with none but points of the set -/
def wtT (X Y : Nat → Nat) (N S p : Nat) : Nat := match fstB (fun z => sbB X Y N S z p) 11 with
  | some z => otB X Y N z p
  | none => 2 ^ p
def cvB (X Y : Nat → Nat) (N S p : Nat) : Bool := S.testBit p && decide (lo (wtT X Y N S p) = p)
theorem wtT_bd {X Y : Nat → Nat} {N S p : Nat} (hN : N ≤ 24) (hp : p < N) : wtT X Y N S p < 2 ^ 24 ∧ wtT X Y N S p ≠ 0 := by
  unfold wtT
  cases fstB (fun z => sbB X Y N S z p) 11 with
  | some z => exact ⟨tm_lt hN, bit_ne0 (ot_self hp)⟩
  | none => exact ⟨Nat.pow_lt_pow_right (by omega) (by omega), Nat.ne_of_gt (Nat.two_pow_pos p)⟩
theorem div_lt1024 {x z : Nat} (h : x < 1024) : x / rad z < 1024 := Nat.lt_of_le_of_lt (Nat.div_le_self _ _) h
theorem widest8 {F N S p : Nat} {X Y : Nat → Nat} {xs ys : Nat → Int32} (hF : 1000 ≤ F) (hN : N ≤ 24) (hP : PT N X Y xs ys) (hI : IN N X Y) (hp : p < N) : mX8_widestTile F (nI p) (nI S) (nI N) xs ys = some (nI (wtT X Y N S p)) := by
  have ⟨p1, p2⟩ := hP p hp
  have ⟨q1, q2⟩ := hI p hp
  unfold mX8_widestTile
  refine (lpS (body := fun s11 => mX8_widestTile_b11 F (nI p) (nI S) (nI N) xs ys s11) (F := F) (s0 := (0 : Int32)) (fun k => nI k) (fun z => sbB X Y N S z p) 11 (fun z => nI (otB X Y N z p)) (nI (2 ^ p)) rfl (fun k hk _ => ?_) (fun _ => ?_) (by omega)).trans ?_
  · unfold mX8_widestTile_b11
    have ex : nI (X p) >>> (nI (10 - k) &&& 31) = nI (X p / rad k) := by rw [nI_shr (by omega) (by omega), rad_pow (by omega)]
    have ey : nI (Y p) >>> (nI (10 - k) &&& 31) = nI (Y p / rad k) := by rw [nI_shr (by omega) (by omega), rad_pow (by omega)]
    rw [if_neg (show ¬ (10 : Int32) < nI k by rw [c10, nI_ltE (by omega) (by omega)]; omega), Option.bind_some, rdI_n (by omega) (by omega), Option.bind_some, rdI_n (by omega) (by omega), Option.bind_some, p1, p2, c10, pk_sub (by omega), ex, ey, tile4 hF hN (by omega), Option.bind_some,
      tl_nat hP hI (by omega) (div_lt1024 q1) (div_lt1024 q2)]
    show (if nI (otB X Y N k p) &&& (nI S ^^^ (-1 : Int32)) = 0 then (some (.inr (nI (otB X Y N k p))) : Option (Int32 ⊕ Int32)) else some (.inl (nI k + (1 : Int32)))) = _
    by_cases c : nI (otB X Y N k p) &&& (nI S ^^^ (-1 : Int32)) = 0
    · have e : sbB X Y N S k p = true := decide_eq_true c
      rw [if_pos c, e, if_pos rfl]
    · have e : sbB X Y N S k p = false := decide_eq_false c
      rw [if_neg c, e, if_neg Bool.false_ne_true, nI_1]
  · unfold mX8_widestTile_b11
    rw [if_pos (show (10 : Int32) < nI 11 by decide +kernel), nI_bit (by omega)]
  · unfold wtT
    cases fstB (fun z => sbB X Y N S z p) 11 <;> rfl
/-- the class's count -/
theorem cover8 {F N S : Nat} {X Y : Nat → Nat} {xs ys ga se we cx cy : Nat → Int32} {cn : Int32} (hF : 1000 ≤ F) (hN : N ≤ 24) (hP : PT N X Y xs ys) (hI : IN N X Y) (hS : S < 2 ^ 31) :
    loop (fun s27 : Int32 × Int32 => mX8_cover_b27 F (nI N) xs ys cn ga se we cx cy (nI S) s27.1 s27.2) F ((0 : Int32), (0 : Int32)) = some (nI (cntB (cvB X Y N S) N), cn, ga, se, we, cx, cy) := by
  refine lp (fun k => (nI (cntB (cvB X Y N S) k), nI k)) 0 N _ (by omega) rfl (fun k _ hk => ?_) ?_ (by omega)
  · have ⟨w1, w2⟩ := wtT_bd (X := X) (Y := Y) (S := S) hN hk
    have e : cntB (cvB X Y N S) (k + 1) = cntB (cvB X Y N S) k + (if cvB X Y N S k = true then 1 else 0) := rfl
    have hlo := (lo_bit w1 w2).2.1
    unfold mX8_cover_b27
    simp only []
    rw [if_neg (show ¬ nI N ≤ nI k by rw [nI_leE (by omega) (by omega)]; omega), has6b F hS (by omega), Option.bind_some, e]
    by_cases c : S.testBit k = true
    · rw [c, if_neg (by rw [k0T]; exact id), widest8 hF hN hP hI hk, Option.bind_some, least6s hF w1 w2, Option.bind_some]
      by_cases c2 : lo (wtT X Y N S k) = k
      · have e2 : cvB X Y N S k = true := by unfold cvB; rw [c, decide_eq_true c2]; rfl
        rw [if_pos (by rw [c2]), Option.bind_some, e2, if_pos rfl, nI_1, nI_1]
      · have e2 : cvB X Y N S k = false := by unfold cvB; rw [c, decide_eq_false c2]; rfl
        rw [if_neg (by rw [nI_eqE (by omega) (by omega)]; exact c2), e2, if_neg Bool.false_ne_true, nI_1]
        rfl
    · have c' := Bool.not_eq_true _ |>.mp c
      have e2 : cvB X Y N S k = false := by unfold cvB; rw [c']; rfl
      rw [c', if_pos (by rw [k0F]; trivial), e2, if_neg Bool.false_ne_true, nI_1]
      rfl
  · unfold mX8_cover_b27
    simp only []
    rw [if_pos (show nI N ≤ nI N by rw [nI_leE (by omega) (by omega)]; omega)]
