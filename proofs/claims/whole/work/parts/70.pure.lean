/-! ===== PURE 61: turns ===== -/
def crs (u1 v1 u2 v2 : Int) : Int := u1 * v2 - u2 * v1
/-- ahead in the order of x, then y -/
def ps (u v : Int) : Prop := 0 < u ∨ u = 0 ∧ 0 < v
theorem crs_id (a1 a2 b1 b2 c1 c2 : Int) : b1 * crs a1 a2 c1 c2 = a1 * crs b1 b2 c1 c2 + c1 * crs a1 a2 b1 b2 := by
  unfold crs
  simp only [Int.mul_sub, ← Int.mul_assoc]
  rw [Int.mul_comm b1 a1, Int.mul_comm b1 c1, Int.mul_comm a1 c1]
  omega
theorem neg_pos_mul {a b : Int} (ha : 0 < a) (h : 0 ≤ a * b) : 0 ≤ b := by
  refine Int.not_lt.mp (fun g => ?_)
  have := Int.mul_pos ha (show 0 < -b by omega)
  rw [Int.mul_neg] at this
  omega
theorem pos_pos_mul {a b : Int} (ha : 0 < a) (h : 0 < a * b) : 0 < b := by
  refine Int.not_le.mp (fun g => ?_)
  have := Int.mul_nonneg (show 0 ≤ a by omega) (show 0 ≤ -b by omega)
  rw [Int.mul_neg] at this
  omega
theorem tr_0 {a1 a2 b1 b2 c1 c2 : Int} (ha : ps a1 a2) (hb : ps b1 b2) (hc : ps c1 c2) (h1 : 0 ≤ crs a1 a2 b1 b2) (h2 : 0 ≤ crs b1 b2 c1 c2) : 0 ≤ crs a1 a2 c1 c2 := by
  have i := crs_id a1 a2 b1 b2 c1 c2
  have a0 : 0 ≤ a1 := by rcases ha with h | h <;> omega
  have c0 : 0 ≤ c1 := by rcases hc with h | h <;> omega
  rcases hb with hb | ⟨hb1, hb2⟩
  · have p1 := Int.mul_nonneg a0 h2
    have p2 := Int.mul_nonneg c0 h1
    exact neg_pos_mul hb (by omega)
  · unfold crs at h2 ⊢
    rw [hb1, Int.zero_mul] at h2
    have e : c1 = 0 := by
      refine Int.le_antisymm (Int.not_lt.mp (fun g => ?_)) c0
      have := Int.mul_pos g hb2
      omega
    have c2p : 0 < c2 := by rcases hc with h | h <;> omega
    rw [e, Int.zero_mul]
    have := Int.mul_nonneg a0 (show 0 ≤ c2 by omega)
    omega
theorem tr_1 {a1 a2 b1 b2 c1 c2 : Int} (ha : ps a1 a2) (hb : ps b1 b2) (hc : ps c1 c2) (h1 : 0 ≤ crs a1 a2 b1 b2) (h2 : 0 < crs b1 b2 c1 c2) : 0 < crs a1 a2 c1 c2 := by
  have i := crs_id a1 a2 b1 b2 c1 c2
  have a0 : 0 ≤ a1 := by rcases ha with h | h <;> omega
  have c0 : 0 ≤ c1 := by rcases hc with h | h <;> omega
  rcases hb with hb | ⟨hb1, hb2⟩
  · have ap : 0 < a1 := by
      rcases ha with h | ⟨h, g⟩
      · exact h
      · unfold crs at h1
        rw [h, Int.zero_mul] at h1
        have := Int.mul_pos hb g
        omega
    have p1 := Int.mul_pos ap h2
    have p2 := Int.mul_nonneg c0 h1
    exact pos_pos_mul hb (by omega)
  · unfold crs at h2
    rw [hb1, Int.zero_mul] at h2
    have := Int.mul_nonneg c0 (show 0 ≤ b2 by omega)
    omega
theorem tr_2 {a1 a2 b1 b2 c1 c2 : Int} (ha : ps a1 a2) (hb : ps b1 b2) (hc : ps c1 c2) (h1 : 0 < crs a1 a2 b1 b2) (h2 : 0 ≤ crs b1 b2 c1 c2) : 0 < crs a1 a2 c1 c2 := by
  have i := crs_id a1 a2 b1 b2 c1 c2
  have a0 : 0 ≤ a1 := by rcases ha with h | h <;> omega
  have c0 : 0 ≤ c1 := by rcases hc with h | h <;> omega
  have ap : 0 < a1 := by
    rcases ha with h | ⟨h, g⟩
    · exact h
    · unfold crs at h1
      rw [h, Int.zero_mul] at h1
      have := Int.mul_nonneg (show 0 ≤ b1 by rcases hb with h | h <;> omega) (show 0 ≤ a2 by omega)
      omega
  rcases hc with hc | ⟨hc1, hc2⟩
  · rcases hb with hb | ⟨hb1, hb2⟩
    · have p1 := Int.mul_nonneg a0 h2
      have p2 := Int.mul_pos hc h1
      exact pos_pos_mul hb (by omega)
    · unfold crs at h2
      rw [hb1, Int.zero_mul] at h2
      have := Int.mul_pos hc hb2
      omega
  · unfold crs
    rw [hc1, Int.zero_mul]
    have := Int.mul_pos ap hc2
    omega
/-- on which side of the way from a to b the point c is -/
def trn (X Y : Nat → Int) (a b c : Nat) : Int := crs (X b - X a) (Y b - Y a) (X c - X a) (Y c - Y a)
def lx (X Y : Nat → Int) (a b : Nat) : Prop := ps (X b - X a) (Y b - Y a)
theorem lx_trans {X Y : Nat → Int} {a b c : Nat} (h1 : lx X Y a b) (h2 : lx X Y b c) : lx X Y a c := by
  unfold lx ps at h1 h2 ⊢
  omega
theorem lx_asym {X Y : Nat → Int} {a b : Nat} (h1 : lx X Y a b) (h2 : lx X Y b a) : False := by
  unfold lx ps at h1 h2
  omega
theorem lx_irr {X Y : Nat → Int} {a : Nat} (h1 : lx X Y a a) : False := lx_asym h1 h1
theorem trn_swap (X Y : Nat → Int) (a b c : Nat) : trn X Y a c b = - trn X Y a b c := by
  unfold trn crs
  omega
theorem trn_cyc (X Y : Nat → Int) (a b c : Nat) : trn X Y b c a = trn X Y a b c := by
  unfold trn crs
  simp only [Int.sub_mul, Int.mul_sub]
  omega
theorem trn_self (X Y : Nat → Int) (a b : Nat) : trn X Y a b a = 0 := by
  unfold trn crs
  simp only [Int.sub_mul, Int.mul_sub]
  omega
theorem trn_neg (X Y : Nat → Int) (a b c : Nat) : trn (fun i => - X i) (fun i => - Y i) a b c = trn X Y a b c := by
  unfold trn crs
  simp only [Int.sub_mul, Int.mul_sub, Int.neg_mul_neg]
theorem lx_neg (X Y : Nat → Int) (a b : Nat) : lx (fun i => - X i) (fun i => - Y i) a b ↔ lx X Y b a := by
  show ps (- X b - - X a) (- Y b - - Y a) ↔ ps (X a - X b) (Y a - Y b)
  unfold ps
  constructor <;> intro h <;> omega
/-- ways of writing a turn -/
theorem trn_e1 (X Y : Nat → Int) (a b c : Nat) : crs (X b - X a) (Y b - Y a) (X c - X b) (Y c - Y b) = trn X Y a b c := by
  unfold trn crs
  simp only [Int.sub_mul, Int.mul_sub]
  omega
theorem trn_e2 (X Y : Nat → Int) (g h q : Nat) : crs (X h - X q) (Y h - Y q) (X h - X g) (Y h - Y g) = trn X Y g h q := by
  unfold trn crs
  simp only [Int.sub_mul, Int.mul_sub]
  omega
theorem trn_e3 (X Y : Nat → Int) (h p q : Nat) : crs (X h - X q) (Y h - Y q) (X p - X h) (Y p - Y h) = trn X Y h p q := by
  unfold trn crs
  simp only [Int.sub_mul, Int.mul_sub]
  omega
theorem tA {X Y : Nat → Int} {a b c d : Nat} (h1 : lx X Y a b) (h2 : lx X Y b c) (h3 : lx X Y b d) (g1 : 0 < trn X Y a b c) (g2 : 0 < trn X Y b c d) : 0 < trn X Y a b d := by
  rw [← trn_e1] at g1 ⊢
  exact tr_1 h1 h2 h3 (by omega) g2
theorem tB {X Y : Nat → Int} {g h p q : Nat} (h1 : lx X Y g h) (h2 : lx X Y q h) (h3 : lx X Y h p) (g1 : 0 ≤ trn X Y g h q) (g2 : 0 < trn X Y g h p) : 0 < trn X Y h p q := by
  rw [← trn_e2] at g1
  rw [← trn_e1] at g2
  rw [← trn_e3]
  exact tr_1 h2 h1 h3 g1 g2
theorem tC {X Y : Nat → Int} {g t p q : Nat} (h1 : lx X Y g q) (h2 : lx X Y g t) (h3 : lx X Y g p) (g1 : 0 ≤ trn X Y g t q) (g2 : trn X Y g t p ≤ 0) : 0 ≤ trn X Y g p q := by
  have s := trn_swap X Y g t p
  exact tr_0 h3 h2 h1 (show 0 ≤ trn X Y g p t by omega) g1
theorem tD {X Y : Nat → Int} {g t p q : Nat} (h1 : lx X Y q p) (h2 : lx X Y t p) (h3 : lx X Y g p) (g1 : 0 ≤ trn X Y t p q) (g2 : trn X Y g t p ≤ 0) : 0 ≤ trn X Y g p q := by
  have e1 : crs (X p - X q) (Y p - Y q) (X p - X t) (Y p - Y t) = trn X Y t p q := trn_e2 X Y t p q
  have e2 : crs (X p - X t) (Y p - Y t) (X p - X g) (Y p - Y g) = trn X Y g p t := trn_e2 X Y g p t
  have e3 : crs (X p - X q) (Y p - Y q) (X p - X g) (Y p - Y g) = trn X Y g p q := trn_e2 X Y g p q
  have s := trn_swap X Y g t p
  rw [← e3]
  exact tr_0 h1 h2 h3 (by omega) (by omega)
theorem sqnn (x : Int) : 0 ≤ x * x := by
  rcases Int.le_total 0 x with h | h
  · exact Int.mul_nonneg h h
  · have := Int.mul_nonneg (show 0 ≤ -x by omega) (show 0 ≤ -x by omega)
    rw [Int.neg_mul_neg] at this
    exact this
theorem seg {e1 e2 f1 f2 : Int} (he : ps e1 e2) (hf : ps f1 f2) (h : f1 * e2 = e1 * f2) : e1 * e1 + e2 * e2 < (e1 + f1) * (e1 + f1) + (e2 + f2) * (e2 + f2) := by
  have f0 : 0 ≤ f1 := by rcases hf with h | h <;> omega
  have d : 0 ≤ e1 * f1 + e2 * f2 := by
    rcases he with h1 | ⟨h1, h2⟩
    · refine neg_pos_mul h1 ?_
      have e : e1 * (e1 * f1 + e2 * f2) = f1 * (e1 * e1 + e2 * e2) := by
        rw [Int.mul_add, Int.mul_add, ← Int.mul_assoc, ← Int.mul_assoc, ← Int.mul_assoc, ← Int.mul_assoc, h, Int.mul_comm f1 e1, Int.mul_right_comm e1 f2 e2, Int.mul_right_comm e1 e1 f1]
      rw [e]
      have a := sqnn e1
      have b := sqnn e2
      exact Int.mul_nonneg f0 (by omega)
    · rw [h1, Int.zero_mul] at h
      have e : f1 = 0 := by
        refine Int.le_antisymm (Int.not_lt.mp (fun g => ?_)) f0
        have := Int.mul_pos g h2
        omega
      have f2p : 0 < f2 := by rcases hf with h | h <;> omega
      rw [h1, Int.zero_mul]
      have := Int.mul_pos h2 f2p
      omega
  have n : 0 < f1 * f1 + f2 * f2 := by
    have a := sqnn f1
    have b := sqnn f2
    rcases hf with h1 | ⟨h1, h2⟩
    · have := Int.mul_pos h1 h1
      omega
    · have := Int.mul_pos h2 h2
      omega
  simp only [Int.add_mul, Int.mul_add]
  rw [Int.mul_comm f1 e1, Int.mul_comm f2 e2]
  omega
/-- as the square of how far apart -/
def sqI (X Y : Nat → Int) (a b : Nat) : Int := (X b - X a) * (X b - X a) + (Y b - Y a) * (Y b - Y a)
theorem seg_lt {X Y : Nat → Int} {a b q : Nat} (h1 : lx X Y a q) (h2 : lx X Y q b) (h : trn X Y a b q = 0) : sqI X Y a q < sqI X Y a b := by
  have e : (X b - X q) * (Y q - Y a) = (X q - X a) * (Y b - Y q) := by
    unfold trn crs at h
    simp only [Int.sub_mul, Int.mul_sub] at h ⊢
    omega
  have s := seg h1 h2 e
  unfold sqI
  rw [show X q - X a + (X b - X q) = X b - X a by omega, show Y q - Y a + (Y b - Y q) = Y b - Y a by omega] at s
  exact s
theorem sq_neg (X Y : Nat → Int) (a b : Nat) : sqI (fun i => - X i) (fun i => - Y i) a b = sqI X Y a b := by
  unfold sqI
  simp only [Int.sub_mul, Int.mul_sub, Int.neg_mul_neg]
