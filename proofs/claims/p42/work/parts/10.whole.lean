/-! ===== out of whole's pure parts ===== -/
theorem loop_succ {σ ρ : Type} {body : σ → Option (σ ⊕ ρ)} {n : Nat} {s s' : σ} (h : body s = some (.inl s')) : loop body (n + 1) s = loop body n s' := by
  show (match body s with | none => none | some (.inl s') => loop body n s' | some (.inr r) => some r) = _
  rw [h]
theorem loop_out {σ ρ : Type} {body : σ → Option (σ ⊕ ρ)} {n : Nat} {s : σ} {r : ρ} (h : body s = some (.inr r)) : loop body (n + 1) s = some r := by
  show (match body s with | none => none | some (.inl s') => loop body n s' | some (.inr r) => some r) = _
  rw [h]
/-- a loop that seeks: the first k below n of which p answers -/
def seek {ρ : Type} (p : Nat → Option ρ) : Nat → Nat → Option ρ
  | 0, _ => none
  | n + 1, k => match p k with
    | some r => some r
    | none => seek p n (k + 1)
theorem rdI_n {n k : Nat} {f : Nat → Int32} (h : k < n) (hn : n ≤ 1000) : rdI n f (nI k) = some (f k) := by
  have e := nI_toInt (n := k) (by omega)
  unfold rdI
  rw [e, if_pos ⟨by omega, by omega⟩]
  rfl
theorem rdL_n {n k : Nat} {f : Nat → Int64} (h : k < n) (hn : n ≤ 1000) : rdL n f (nI k) = some (f k) := by
  have e := nI_toInt (n := k) (by omega)
  unfold rdL
  rw [e, if_pos ⟨by omega, by omega⟩]
  rfl
theorem wrI_n {n k : Nat} {f : Nat → Int32} {x : Int32} (h : k < n) (hn : n ≤ 1000) : wrI n f (nI k) x = some (upd f k x) := by
  have e := nI_toInt (n := k) (by omega)
  unfold wrI
  rw [e, if_pos ⟨by omega, by omega⟩]
  rfl
theorem wrL_n {n k : Nat} {f : Nat → Int64} {x : Int64} (h : k < n) (hn : n ≤ 1000) : wrL n f (nI k) x = some (vp_updL f k x) := by
  have e := nI_toInt (n := k) (by omega)
  unfold wrL
  rw [e, if_pos ⟨by omega, by omega⟩]
  rfl
/-- ints by the whole numbers that they are -/
theorem tI_n {k : Nat} (h : k < 2 ^ 31) : (nI k).toInt = (k : Int) := nI_toInt h
theorem tI_ext {x y : Int32} (h : x.toInt = y.toInt) : x = y := Int32.toInt_inj.mp h
theorem tI_rng (x : Int32) : -2147483648 ≤ x.toInt ∧ x.toInt < 2147483648 := ⟨Int32.le_toInt x, Int32.toInt_lt x⟩
theorem tI_bm {z : Int} (h1 : -2147483648 ≤ z) (h2 : z < 2147483648) : z.bmod (2 ^ 32) = z := by
  rw [Int.bmod_eq_of_le] <;> omega
theorem tI_mul {x y : Int32} {a b : Int} (hx : x.toInt = a) (hy : y.toInt = b) (h1 : -2147483648 ≤ a * b) (h2 : a * b < 2147483648) : (x * y).toInt = a * b := by
  rw [Int32.toInt_mul, hx, hy, tI_bm h1 h2]
theorem tI_le {x y : Int32} : x ≤ y ↔ x.toInt ≤ y.toInt := Int32.le_iff_toInt_le
theorem tI_lt {x y : Int32} : x < y ↔ x.toInt < y.toInt := Int32.lt_iff_toInt_lt
theorem tI_nI {x : Int32} (h : 0 ≤ x.toInt) : x = nI x.toInt.toNat := by
  apply tI_ext
  have := tI_rng x
  rw [tI_n (by omega)]
  omega
theorem nI_or {a b : Nat} (ha : a < 2 ^ 31) (hb : b < 2 ^ 31) : nI a ||| nI b = nI (a ||| b) := by
  apply Int32.toBitVec_inj.mp
  apply BitVec.eq_of_toNat_eq
  have hlt : a ||| b < 2 ^ 31 := Nat.or_lt_two_pow ha hb
  rw [Int32.toBitVec_or, BitVec.toNat_or, pk_tn (by omega), pk_tn (by omega), pk_tn (by omega)]
theorem nI_and {a b : Nat} (ha : a < 2 ^ 31) (hb : b < 2 ^ 31) : nI a &&& nI b = nI (a &&& b) := by
  apply Int32.toBitVec_inj.mp
  apply BitVec.eq_of_toNat_eq
  have hlt : a &&& b ≤ a := Nat.and_le_left
  rw [Int32.toBitVec_and, BitVec.toNat_and, pk_tn (by omega), pk_tn (by omega), pk_tn (by omega)]
theorem sh31 : ∀ k : Fin 31, ((nI k.val &&& 31).toBitVec.smod 32).toNat = k.val := by decide +kernel
theorem nI_bit {k : Nat} (hk : k < 31) : (1 : Int32) <<< (nI k &&& 31) = nI (2 ^ k) := by
  have h := pk_shlN (n := 1) (nI k &&& 31) k (sh31 ⟨k, hk⟩) (by
    have : 2 ^ k ≤ 2 ^ 30 := Nat.pow_le_pow_right (by omega) (by omega)
    omega)
  rw [Nat.one_mul] at h
  exact h
theorem nI_shr {m k : Nat} (hm : m < 2 ^ 31) (hk : k < 31) : nI m >>> (nI k &&& 31) = nI (m / 2 ^ k) := pk_shrN hm _ k (sh31 ⟨k, hk⟩)
theorem has_1 {m k : Nat} (hm : m < 2 ^ 31) (hk : k < 31) : (nI m >>> (nI k &&& 31)) &&& (1 : Int32) = if m.testBit k then 1 else 0 := by
  have hd : m / 2 ^ k ≤ m := Nat.div_le_self _ _
  rw [nI_shr hm hk, show (1 : Int32) = nI 1 from rfl, nI_and (by omega) (by omega), Nat.and_one_is_mod, Nat.testBit_eq_decide_div_mod_eq]
  rcases Nat.mod_two_eq_zero_or_one (m / 2 ^ k) with h | h <;> rw [h] <;> simp <;> rfl
theorem has6 {m k : Nat} (F : Nat) (hm : m < 2 ^ 31) (hk : k < 31) : mX6_has F (nI m) (nI k) = some (if m.testBit k then 1 else 0) := by
  unfold mX6_has
  rw [has_1 hm hk]
  cases m.testBit k <;> rfl
def bI (b : Bool) : Int32 := if b = true then 1 else 0
theorem bI_0 (b : Bool) : (bI b = 0) = (b = false) := by cases b <;> simp [bI]
theorem bI_1 (b : Bool) : (bI b = 1) = (b = true) := by cases b <;> simp [bI]
def oI : Option Nat → Int32
  | none => -1
  | some k => nI k
theorem m1_toInt : (-1 : Int32).toInt = -1 := by decide +kernel
theorem nI_m1 {a : Nat} (ha : a < 2 ^ 31) : (nI a = -1) = False := by
  refine eq_false (fun h => ?_)
  have e := nI_toInt ha
  rw [h, m1_toInt] at e
  omega
theorem oI_m1 {o : Option Nat} (h : ∀ k, o = some k → k < 2 ^ 31) : (oI o = -1) = (o = none) := by
  cases o with
  | none => simp [oI]
  | some k => simp only [oI]; rw [nI_m1 (h k rfl)]; simp
theorem has6b {m k : Nat} (F : Nat) (hm : m < 2 ^ 31) (hk : k < 31) : mX6_has F (nI m) (nI k) = some (bI (m.testBit k)) := has6 F hm hk
theorem c0 : (0 : Int32) = nI 0 := rfl
theorem c1 : (1 : Int32) = nI 1 := rfl
theorem c2 : (2 : Int32) = nI 2 := rfl
theorem c3 : (3 : Int32) = nI 3 := rfl
theorem c9 : (9 : Int32) = nI 9 := rfl
theorem c10 : (10 : Int32) = nI 10 := rfl
theorem c24 : (24 : Int32) = nI 24 := rfl
theorem c100 : (100 : Int32) = nI 100 := rfl
theorem c124 : (124 : Int32) = nI 124 := rfl
theorem c1024 : (1024 : Int32) = nI 1024 := rfl
theorem nI_leE {a b : Nat} (ha : a < 2 ^ 31) (hb : b < 2 ^ 31) : (nI a ≤ nI b) = (a ≤ b) := propext (nI_leI ha hb)
theorem nI_ltE {a b : Nat} (ha : a < 2 ^ 31) (hb : b < 2 ^ 31) : (nI a < nI b) = (a < b) := propext (nI_ltI ha hb)
theorem nI_eqE {a b : Nat} (ha : a < 2 ^ 31) (hb : b < 2 ^ 31) : (nI a = nI b) = (a = b) := propext (nI_eq ha hb)
theorem nI_s1 {a : Nat} (h : 1 ≤ a) : nI a - 1 = nI (a - 1) := pk_sub (b := 1) h
theorem nI_a1 {a : Nat} (h : 1 ≤ a) : nI a + (-1) = nI (a - 1) := by
  have := pk_m1 (a - 1)
  rw [show a - 1 + 1 = a by omega] at this
  exact this
theorem nI_lt0 {a : Nat} (ha : a < 2 ^ 31) : (nI a < 0) = False := by rw [c0, nI_ltE ha (by omega)]; simp
theorem nI_le0 {a : Nat} (ha : a < 2 ^ 31) : (nI a ≤ 0) = (a = 0) := by rw [c0, nI_leE ha (by omega)]; simp
theorem nI_0le {a : Nat} (ha : a < 2 ^ 31) : (0 ≤ nI a) = True := by rw [c0, nI_leE (by omega) ha]; simp
theorem nI_eq0 {a : Nat} (ha : a < 2 ^ 31) : (nI a = 0) = (a = 0) := by rw [c0, nI_eqE ha (by omega)]
theorem m1_lt0 : ((-1 : Int32) < 0) = True := by decide +kernel
/-- counts -/
def cntB (p : Nat → Bool) : Nat → Nat
  | 0 => 0
  | n + 1 => cntB p n + (if p n = true then 1 else 0)
def sumB (f : Nat → Nat) : Nat → Nat
  | 0 => 0
  | n + 1 => sumB f n + f n
def fstB (p : Nat → Bool) : Nat → Option Nat
  | 0 => none
  | n + 1 => match fstB p n with
    | some k => some k
    | none => if p n = true then some n else none
def lstB (p : Nat → Bool) : Nat → Option Nat
  | 0 => none
  | n + 1 => if p n = true then some n else lstB p n
def mkB (p : Nat → Bool) : Nat → Nat
  | 0 => 0
  | n + 1 => if p n = true then mkB p n ||| 2 ^ n else mkB p n
def bstB (p : Nat → Bool) (lt : Nat → Nat → Bool) : Nat → Option Nat
  | 0 => none
  | n + 1 => if p n = true then (match bstB p lt n with
    | none => some n
    | some b => if lt n b = true then some n else some b) else bstB p lt n
theorem cntB_le (p : Nat → Bool) : ∀ n, cntB p n ≤ n
  | 0 => Nat.le_refl _
  | n + 1 => by have := cntB_le p n; simp only [cntB]; split <;> omega
theorem cntB_congr {p q : Nat → Bool} : ∀ {n}, (∀ k, k < n → p k = q k) → cntB p n = cntB q n
  | 0, _ => rfl
  | n + 1, h => by simp only [cntB]; rw [cntB_congr (fun k hk => h k (by omega)), h n (by omega)]
theorem sumB_congr {f g : Nat → Nat} : ∀ {n}, (∀ k, k < n → f k = g k) → sumB f n = sumB g n
  | 0, _ => rfl
  | n + 1, h => by simp only [sumB]; rw [sumB_congr (fun k hk => h k (by omega)), h n (by omega)]
theorem sumB_le {f : Nat → Nat} {c : Nat} : ∀ {n}, (∀ k, k < n → f k ≤ c) → sumB f n ≤ n * c
  | 0, _ => Nat.zero_le _
  | n + 1, h => by
    have h1 := sumB_le (n := n) (fun k hk => h k (by omega))
    have h2 := h n (by omega)
    simp only [sumB]
    rw [Nat.succ_mul]
    omega
theorem cntB_sum (p : Nat → Bool) : ∀ n, cntB p n = sumB (fun k => if p k = true then 1 else 0) n
  | 0 => rfl
  | n + 1 => by simp only [cntB, sumB]; rw [cntB_sum p n]
theorem fstB_congr {p q : Nat → Bool} : ∀ {n}, (∀ k, k < n → p k = q k) → fstB p n = fstB q n
  | 0, _ => rfl
  | n + 1, h => by simp only [fstB]; rw [fstB_congr (fun k hk => h k (by omega)), h n (by omega)]
theorem fstB_none {p : Nat → Bool} : ∀ {n}, fstB p n = none ↔ ∀ k, k < n → p k = false
  | 0 => ⟨fun _ k h => by omega, fun _ => rfl⟩
  | n + 1 => by
    simp only [fstB]
    cases h : fstB p n with
    | some k =>
      have : ¬ ∀ k, k < n → p k = false := fun g => by rw [fstB_none.mpr g] at h; cases h
      refine ⟨fun g => (by cases g), fun g => absurd (fun k hk => g k (by omega)) this⟩
    | none =>
      have h2 := fstB_none.mp h
      cases hp : p n with
      | true => refine ⟨fun g => (by simp at g), fun g => (by rw [g n (by omega)] at hp; cases hp)⟩
      | false =>
        refine ⟨fun _ k hk => ?_, fun _ => by simp⟩
        rcases Nat.lt_succ_iff_lt_or_eq.mp hk with e | e
        · exact h2 k e
        · subst e; exact hp
theorem fstB_some {p : Nat → Bool} {k : Nat} : ∀ {n}, fstB p n = some k ↔ (k < n ∧ p k = true ∧ ∀ i, i < k → p i = false)
  | 0 => ⟨fun h => (by cases h), fun h => by omega⟩
  | n + 1 => by
    simp only [fstB]
    cases h : fstB p n with
    | some j =>
      have hj := fstB_some.mp h
      refine ⟨fun g => ?_, fun ⟨g1, g2, g3⟩ => ?_⟩
      · cases g; exact ⟨by omega, hj.2.1, hj.2.2⟩
      · have e : j = k := by
          rcases Nat.lt_trichotomy j k with e | e | e
          · have := g3 j e; rw [hj.2.1] at this; cases this
          · exact e
          · have := hj.2.2 k e; rw [g2] at this; cases this
        rw [e]
    | none =>
      have h2 := fstB_none.mp h
      cases hp : p n with
      | true =>
        simp only [if_true]
        refine ⟨fun g => ?_, fun ⟨g1, g2, g3⟩ => ?_⟩
        · cases g; exact ⟨by omega, hp, h2⟩
        · rcases Nat.lt_succ_iff_lt_or_eq.mp g1 with e | e
          · rw [h2 k e] at g2; cases g2
          · rw [e]
      | false =>
        refine ⟨fun g => (by simp at g), fun ⟨g1, g2, g3⟩ => ?_⟩
        rcases Nat.lt_succ_iff_lt_or_eq.mp g1 with e | e
        · rw [h2 k e] at g2; cases g2
        · subst e; rw [hp] at g2; cases g2
theorem lstB_none {p : Nat → Bool} : ∀ {n}, lstB p n = none ↔ ∀ k, k < n → p k = false
  | 0 => ⟨fun _ k h => by omega, fun _ => rfl⟩
  | n + 1 => by
    simp only [lstB]
    cases hp : p n with
    | true => refine ⟨fun g => (by simp at g), fun g => (by rw [g n (by omega)] at hp; cases hp)⟩
    | false =>
      simp only [if_neg (show ¬ (false = true) by decide)]
      refine lstB_none.trans ⟨fun g k hk => ?_, fun g k hk => g k (by omega)⟩
      rcases Nat.lt_succ_iff_lt_or_eq.mp hk with e | e
      · exact g k e
      · subst e; exact hp
theorem lstB_some {p : Nat → Bool} {k : Nat} : ∀ {n}, lstB p n = some k ↔ (k < n ∧ p k = true ∧ ∀ i, k < i → i < n → p i = false)
  | 0 => ⟨fun h => (by cases h), fun h => by omega⟩
  | n + 1 => by
    simp only [lstB]
    cases hp : p n with
    | true =>
      simp only [if_true]
      refine ⟨fun g => ?_, fun ⟨g1, g2, g3⟩ => ?_⟩
      · cases g; exact ⟨by omega, hp, fun i h1 h2 => by omega⟩
      · rcases Nat.lt_succ_iff_lt_or_eq.mp g1 with e | e
        · have := g3 n e (by omega); rw [hp] at this; cases this
        · rw [e]
    | false =>
      simp only [if_neg (show ¬ (false = true) by decide)]
      refine lstB_some.trans ⟨fun ⟨g1, g2, g3⟩ => ⟨by omega, g2, fun i h1 h2 => ?_⟩, fun ⟨g1, g2, g3⟩ => ⟨?_, g2, fun i h1 h2 => g3 i h1 (by omega)⟩⟩
      · rcases Nat.lt_succ_iff_lt_or_eq.mp h2 with e | e
        · exact g3 i h1 e
        · subst e; exact hp
      · rcases Nat.lt_succ_iff_lt_or_eq.mp g1 with e | e
        · exact e
        · subst e; rw [hp] at g2; cases g2
theorem fstB_lt {p : Nat → Bool} {n k : Nat} (h : fstB p n = some k) : k < n := (fstB_some.mp h).1
theorem mkB_bit (p : Nat → Bool) : ∀ n i, (mkB p n).testBit i = (decide (i < n) && p i)
  | 0, i => by simp [mkB]
  | n + 1, i => by
    simp only [mkB]
    have ih := mkB_bit p n i
    by_cases e : i = n
    · subst e
      cases hp : p i with
      | true => simp [Nat.testBit_two_pow]
      | false => simp [ih, hp]
    · have e2 : decide (i < n + 1) = decide (i < n) := by simp; omega
      rw [e2]
      split
      · rw [Nat.testBit_or, ih, Nat.testBit_two_pow]; simp [Ne.symm e]
      · exact ih
theorem mkB_lt (p : Nat → Bool) : ∀ n, mkB p n < 2 ^ n
  | 0 => by simp [mkB]
  | n + 1 => by
    have ih := mkB_lt p n
    simp only [mkB]
    have : 2 ^ (n + 1) = 2 * 2 ^ n := by rw [Nat.pow_succ]; omega
    split
    · refine Nat.or_lt_two_pow ?_ ?_ <;> omega
    · omega
theorem mask_ext {a b : Nat} (h : ∀ i, a.testBit i = b.testBit i) : a = b := Nat.eq_of_testBit_eq h
theorem bit_lt {m n i : Nat} (hm : m < 2 ^ n) (h : m.testBit i = true) : i < n := by
  refine Nat.lt_of_not_le (fun g => ?_)
  have : m < 2 ^ i := Nat.lt_of_lt_of_le hm (Nat.pow_le_pow_right (by omega) g)
  rw [Nat.testBit_lt_two_pow this] at h
  cases h
/-- loops that count up from a to n -/
theorem lp {σ ρ : Type} {body : σ → Option (σ ⊕ ρ)} {F : Nat} {s0 : σ} (St : Nat → σ) (a n : Nat) (r : ρ) (han : a ≤ n) (hs : s0 = St a)
    (hb : ∀ k, a ≤ k → k < n → body (St k) = some (.inl (St (k + 1)))) (he : body (St n) = some (.inr r)) (hF : n < F) : loop body F s0 = some r := by
  subst hs
  have key : ∀ m k, a ≤ k → k + m = n → ∀ F, m < F → loop body F (St k) = some r := by
    intro m
    induction m with
    | zero => intro k h1 h2 F hF; rw [show F = (F - 1) + 1 by omega, show k = n by omega, loop_out he]
    | succ m ih => intro k h1 h2 F hF; rw [show F = (F - 1) + 1 by omega, loop_succ (hb k h1 (by omega)), ih (k + 1) (by omega) (by omega) (F - 1) (by omega)]
  exact key (n - a) a (Nat.le_refl _) (by omega) F (by omega)
theorem lpI {σ ρ α : Type} {body : σ → Option (σ ⊕ ρ)} {F : Nat} {s0 : σ} (St : Nat → α → σ) (I : Nat → α → Prop) (a n : Nat) (out : α → ρ) (x0 : α) (han : a ≤ n) (hs : s0 = St a x0)
    (h0 : I a x0) (hb : ∀ k x, a ≤ k → k < n → I k x → ∃ y, body (St k x) = some (.inl (St (k + 1) y)) ∧ I (k + 1) y)
    (he : ∀ x, I n x → body (St n x) = some (.inr (out x))) (hF : n < F) : ∃ x, loop body F s0 = some (out x) ∧ I n x := by
  subst hs
  have key : ∀ m k, a ≤ k → k + m = n → ∀ F, m < F → ∀ x, I k x → ∃ y, loop body F (St k x) = some (out y) ∧ I n y := by
    intro m
    induction m with
    | zero =>
      intro k h1 h2 F hF x hx
      have e : k = n := by omega
      subst e
      exact ⟨x, by rw [show F = (F - 1) + 1 by omega, loop_out (he x hx)], hx⟩
    | succ m ih =>
      intro k h1 h2 F hF x hx
      obtain ⟨y, e, hy⟩ := hb k x h1 (by omega) hx
      obtain ⟨z, e2, hz⟩ := ih (k + 1) (by omega) (by omega) (F - 1) (by omega) y hy
      exact ⟨z, by rw [show F = (F - 1) + 1 by omega, loop_succ e, e2], hz⟩
  exact key (n - a) a (Nat.le_refl _) (by omega) F (by omega) x0 h0
/-- loops that seek upwards -/
theorem lpS {σ ρ : Type} {body : σ → Option (σ ⊕ ρ)} {F : Nat} {s0 : σ} (St : Nat → σ) (p : Nat → Bool) (n : Nat) (out : Nat → ρ) (d : ρ) (hs : s0 = St 0)
    (hb : ∀ k, k < n → (∀ i, i < k → p i = false) → body (St k) = if p k = true then some (.inr (out k)) else some (.inl (St (k + 1))))
    (he : (∀ i, i < n → p i = false) → body (St n) = some (.inr d)) (hF : n < F) :
    loop body F s0 = some (match fstB p n with | some k => out k | none => d) := by
  subst hs
  have key : ∀ m k, k + m = n → (∀ i, i < k → p i = false) → ∀ F, m < F → loop body F (St k) = some (match fstB p n with | some k => out k | none => d) := by
    intro m
    induction m with
    | zero =>
      intro k h1 h2 F hF
      have e : k = n := by omega
      subst e
      rw [show F = (F - 1) + 1 by omega, loop_out (he h2), fstB_none.mpr h2]
    | succ m ih =>
      intro k h1 h2 F hF
      have e := hb k (by omega) h2
      rw [show F = (F - 1) + 1 by omega]
      cases hp : p k with
      | true => rw [if_pos hp] at e; rw [loop_out e, fstB_some.mpr ⟨by omega, hp, h2⟩]
      | false =>
        rw [if_neg (by rw [hp]; decide)] at e
        rw [loop_succ e]
        refine ih (k + 1) (by omega) (fun i hi => ?_) (F - 1) (by omega)
        rcases Nat.lt_succ_iff_lt_or_eq.mp hi with g | g
        · exact h2 i g
        · subst g; exact hp
  exact key n 0 (by omega) (fun i hi => by omega) F hF
/-- loops that seek downwards: the state of index k is St (k + 1) -/
theorem lpD {σ ρ : Type} {body : σ → Option (σ ⊕ ρ)} {s0 : σ} (St : Nat → σ) (p : Nat → Bool) (out : Nat → ρ) (d : ρ) : ∀ (n : Nat) {F : Nat} (_ : s0 = St n)
    (_ : ∀ k, k < n → (∀ i, k < i → i < n → p i = false) → body (St (k + 1)) = if p k = true then some (.inr (out k)) else some (.inl (St k)))
    (_ : (∀ i, i < n → p i = false) → body (St 0) = some (.inr d)) (_ : n < F), loop body F s0 = some (match lstB p n with | some k => out k | none => d) := by
  intro n F hs hb he hF
  subst hs
  have key : ∀ m, m ≤ n → (∀ i, m ≤ i → i < n → p i = false) → ∀ F, m < F → loop body F (St m) = some (match lstB p n with | some k => out k | none => d) := by
    intro m
    induction m with
    | zero =>
      intro h1 h2 F hF
      rw [show F = (F - 1) + 1 by omega, loop_out (he (fun i hi => h2 i (by omega) hi)), lstB_none.mpr (fun i hi => h2 i (by omega) hi)]
    | succ m ih =>
      intro h1 h2 F hF
      have e := hb m (by omega) (fun i g1 g2 => h2 i (by omega) g2)
      rw [show F = (F - 1) + 1 by omega]
      cases hp : p m with
      | true => rw [if_pos hp] at e; rw [loop_out e, lstB_some.mpr ⟨by omega, hp, fun i g1 g2 => h2 i (by omega) g2⟩]
      | false =>
        rw [if_neg (by rw [hp]; decide)] at e
        rw [loop_succ e]
        refine ih (by omega) (fun i g1 g2 => ?_) (F - 1) (by omega)
        rcases Nat.eq_or_lt_of_le g1 with g | g
        · subst g; exact hp
        · exact h2 i (by omega) g2
  exact key n (Nat.le_refl _) (fun i g1 g2 => by omega) F hF
def dn : Nat → Int32
  | 0 => -1
  | k + 1 => nI k
theorem dn_pred {k : Nat} : nI k + (-1) = dn k := by
  cases k with
  | zero => rfl
  | succ k => exact pk_m1 k
theorem leF {a b : Nat} (h : b < a) : (a ≤ b) = False := eq_false (by omega)
theorem leT {a b : Nat} (h : a ≤ b) : (a ≤ b) = True := eq_true h
theorem ltF {a b : Nat} (h : b ≤ a) : (a < b) = False := eq_false (by omega)
theorem ltT {a b : Nat} (h : a < b) : (a < b) = True := eq_true h
theorem eqF {a b : Nat} (h : a < b ∨ b < a) : (a = b) = False := eq_false (by omega)
theorem oI_def (o : Option Nat) : (match o with | some k => nI k | none => (-1 : Int32)) = oI o := by cases o <;> rfl
theorem find4 {F N : Nat} (hF : 1000 ≤ F) (hN : N ≤ 24) (a b : Int32) (xs ys : Nat → Int32) :
    mX4_find F a b (nI N) xs ys = some (oI (fstB (fun i => decide (xs i = a) && decide (ys i = b)) N)) := by
  unfold mX4_find
  refine (lpS nI (fun i => decide (xs i = a) && decide (ys i = b)) N nI (-1) rfl (fun k hk _ => ?_) (fun _ => ?_) (by omega)).trans ?_
  · by_cases h1 : xs k = a <;> by_cases h2 : ys k = b <;> simp (disch := omega) [mX4_find_b2, Option.bind_some, nI_leE, nI_ltE, nI_eqE, nI_1, nI_add, rdI_n, rdL_n, wrI_n, wrL_n, has6b, bI_0, bI_1, nI_m1, nI_lt0, nI_le0, nI_0le, nI_eq0, leF, leT, ltF, ltT, eqF, h1, h2]
  · simp (disch := omega) [mX4_find_b2, Option.bind_some, nI_leE, nI_ltE, nI_eqE, nI_1, nI_add, rdI_n, rdL_n, wrI_n, wrL_n, has6b, bI_0, bI_1, nI_m1, nI_lt0, nI_le0, nI_0le, nI_eq0, leF, leT, ltF, ltT, eqF]
  · rw [oI_def]
/-- the weight of a set -/
def wtB (W : Nat → Nat) (m N : Nat) : Nat := sumB (fun i => if m.testBit i = true then W i else 0) N
theorem weight4 {F N m : Nat} {W : Nat → Nat} {ws : Nat → Int32} (hF : 1000 ≤ F) (hN : N ≤ 24) (hm : m < 2 ^ 31) (hw : ∀ i, i < N → ws i = nI (W i)) :
    mX4_weightOf F (nI m) (nI N) ws = some (nI (wtB W m N)) := by
  unfold mX4_weightOf
  refine lp (fun k => (nI (wtB W m k), nI k)) 0 N _ (by omega) rfl (fun k _ hk => ?_) ?_ (by omega)
  · cases h1 : m.testBit k <;> simp (disch := omega) [mX4_weightOf_b4, Option.bind_some, nI_leE, nI_ltE, nI_eqE, nI_1, nI_add, rdI_n, rdL_n, wrI_n, wrL_n, has6b, bI_0, bI_1, nI_m1, nI_lt0, nI_le0, nI_0le, nI_eq0, leF, leT, ltF, ltT, eqF, h1, hw, wtB, sumB]
  · simp (disch := omega) [mX4_weightOf_b4, Option.bind_some, nI_leE, nI_ltE, nI_eqE, nI_1, nI_add, rdI_n, rdL_n, wrI_n, wrL_n, has6b, bI_0, bI_1, nI_m1, nI_lt0, nI_le0, nI_0le, nI_eq0, leF, leT, ltF, ltT, eqF]
theorem wtB_le {W : Nat → Nat} {m N : Nat} (hN : N ≤ 24) (hw : ∀ i, i < N → W i ≤ 99) : wtB W m N ≤ 2376 := by
  have : wtB W m N ≤ N * 99 := sumB_le (fun k hk => by split; exact hw k hk; omega)
  omega
/-- how far two numbers are from one another -/
def dst (a b : Nat) : Nat := if a ≤ b then b - a else a - b
def ap (X Y : Nat → Nat) (p q : Nat) : Nat := dst (X p) (X q) * dst (X p) (X q) + dst (Y p) (Y q) * dst (Y p) (Y q)
theorem dst_comm (a b : Nat) : dst a b = dst b a := by unfold dst; split <;> split <;> omega
theorem dst_lt {a b c : Nat} (ha : a < c) (hb : b < c) : dst a b < c := by unfold dst; split <;> omega
theorem ap_comm (X Y : Nat → Nat) (p q : Nat) : ap X Y p q = ap X Y q p := by unfold ap; rw [dst_comm (X p), dst_comm (Y p)]
theorem sq_dst {a b : Nat} (ha : a < 32768) (hb : b < 32768) : (nI a - nI b) * (nI a - nI b) = nI (dst a b * dst a b) := by
  unfold dst
  split
  · have e1 : (nI a - nI b).toInt = (a : Int) - b := pk_sub_toInt (by omega) (by omega)
    have hb1 : (0 : Int) ≤ ((a : Int) - b) * (a - b) := by
      rcases Int.le_total 0 ((a : Int) - b) with h | h
      · exact Int.mul_nonneg h h
      · exact Int.mul_nonneg_of_nonpos_of_nonpos h h
    have e2 : (((b - a : Nat) : Int)) = (b : Int) - a := by omega
    have e3 : (((b - a) * (b - a) : Nat) : Int) = ((a : Int) - b) * (a - b) := by
      rw [Int.natCast_mul, e2, show ((a : Int) - b) = -((b : Int) - a) by omega, Int.neg_mul_neg]
    have hlt : (b - a) * (b - a) ≤ 32768 * 32768 := Nat.mul_le_mul (by omega) (by omega)
    apply tI_ext
    rw [tI_mul e1 e1 (by omega) (by omega), tI_n (by omega), e3]
  · rw [pk_sub (by omega), pk_mul]
theorem sq_bd1 {a b : Nat} (ha : a < 1024) (hb : b < 1024) : dst a b * dst a b ≤ 1023 * 1023 := by
  have := dst_lt ha hb
  exact Nat.mul_le_mul (by omega) (by omega)
theorem ap_lt {X Y : Nat → Nat} {p q : Nat} (h1 : X p < 1024) (h2 : X q < 1024) (h3 : Y p < 1024) (h4 : Y q < 1024) : ap X Y p q ≤ 2093058 := by
  have g1 := sq_bd1 h1 h2
  have g2 := sq_bd1 h3 h4
  unfold ap
  omega
/-- points as both sides hold them -/
def PT (N : Nat) (X Y : Nat → Nat) (xs ys : Nat → Int32) : Prop := ∀ i, i < N → xs i = nI (X i) ∧ ys i = nI (Y i)
def IN (N : Nat) (X Y : Nat → Nat) : Prop := ∀ i, i < N → X i < 1024 ∧ Y i < 1024
theorem apart4 {F N p q : Nat} {X Y : Nat → Nat} {xs ys : Nat → Int32} (hN : N ≤ 24) (hP : PT N X Y xs ys) (hI : IN N X Y) (hp : p < N) (hq : q < N) :
    mX4_apart F (nI p) (nI q) xs ys = some (nI (ap X Y p q)) := by
  have ⟨p1, p2⟩ := hP p hp
  have ⟨q1, q2⟩ := hP q hq
  have ⟨a1, a2⟩ := hI p hp
  have ⟨b1, b2⟩ := hI q hq
  simp (disch := omega) only [mX4_apart, mX4_squares, rdI_n, Option.bind_some, p1, p2, q1, q2, sq_dst, nI_add, ap]
theorem setbit {m k : Nat} (hm : m < 2 ^ 31) (hk : k < 31) : nI m ||| ((1 : Int32) <<< (nI k &&& 31)) = nI (m ||| 2 ^ k) := by
  rw [nI_bit hk, nI_or hm (Nat.pow_lt_pow_right (by omega) hk)]
theorem mk_lt31 (p : Nat → Bool) {k : Nat} (hk : k ≤ 31) : mkB p k < 2 ^ 31 := Nat.lt_of_lt_of_le (mkB_lt p k) (Nat.pow_le_pow_right (by omega) hk)
theorem nth6 {F m : Nat} (hF : 1000 ≤ F) (hm : m < 2 ^ 31) (n : Int32) :
    mX6_nth F (nI m) n = some (oI (fstB (fun k => m.testBit k && decide (nI (cntB m.testBit k) = n)) 24)) := by
  unfold mX6_nth
  refine (lpS (fun k => (nI (cntB m.testBit k), nI k)) (fun k => m.testBit k && decide (nI (cntB m.testBit k) = n)) 24 nI (-1) rfl (fun k hk _ => ?_) (fun _ => ?_) (by omega)).trans ?_
  · cases h1 : m.testBit k
    · simp (disch := omega) [mX6_nth_b4, c24, Option.bind_some, nI_leE, nI_ltE, nI_eqE, nI_1, nI_add, rdI_n, rdL_n, wrI_n, wrL_n, has6b, bI_0, bI_1, nI_m1, nI_lt0, nI_le0, nI_0le, nI_eq0, leF, leT, ltF, ltT, eqF, h1, cntB]
    · by_cases h2 : nI (cntB m.testBit k) = n <;> simp (disch := omega) [mX6_nth_b4, c24, Option.bind_some, nI_leE, nI_ltE, nI_eqE, nI_1, nI_add, rdI_n, rdL_n, wrI_n, wrL_n, has6b, bI_0, bI_1, nI_m1, nI_lt0, nI_le0, nI_0le, nI_eq0, leF, leT, ltF, ltT, eqF, h1, h2, cntB]
  · simp (disch := omega) [mX6_nth_b4, c24, Option.bind_some, nI_leE, nI_ltE, nI_eqE, nI_1, nI_add, rdI_n, rdL_n, wrI_n, wrL_n, has6b, bI_0, bI_1, nI_m1, nI_lt0, nI_le0, nI_0le, nI_eq0, leF, leT, ltF, ltT, eqF]
  · rw [oI_def]
/-- the least of a set -/
def lo (m : Nat) : Nat := match fstB m.testBit 24 with
  | some k => k
  | none => 0
theorem lo_some {m : Nat} (hm : m < 2 ^ 24) (h0 : m ≠ 0) : fstB m.testBit 24 = some (lo m) := by
  unfold lo
  cases h : fstB m.testBit 24 with
  | some k => rfl
  | none =>
    refine absurd (mask_ext (fun i => ?_)) h0
    rw [Nat.zero_testBit]
    by_cases hi : i < 24
    · exact fstB_none.mp h i hi
    · cases hb : m.testBit i with
      | false => rfl
      | true => exact absurd (bit_lt hm hb) hi
theorem lo_bit {m : Nat} (hm : m < 2 ^ 24) (h0 : m ≠ 0) : m.testBit (lo m) = true ∧ lo m < 24 ∧ ∀ i, i < lo m → m.testBit i = false := by
  have := fstB_some.mp (lo_some hm h0)
  exact ⟨this.2.1, this.1, this.2.2⟩
theorem lo_uniq {m k : Nat} (hm : m < 2 ^ 24) (h1 : m.testBit k = true) (h2 : ∀ i, i < k → m.testBit i = false) : lo m = k := by
  have e : fstB m.testBit 24 = some k := fstB_some.mpr ⟨bit_lt hm h1, h1, h2⟩
  unfold lo
  rw [e]
theorem bit_ne0 {m k : Nat} (h : m.testBit k = true) : m ≠ 0 := by
  intro e
  rw [e, Nat.zero_testBit] at h
  cases h
theorem cnt0 {p : Nat → Bool} {k : Nat} : cntB p k = 0 ↔ ∀ i, i < k → p i = false := by
  induction k with
  | zero => exact ⟨fun _ i h => by omega, fun _ => rfl⟩
  | succ k ih =>
    simp only [cntB]
    cases h : p k with
    | true => exact ⟨fun g => by simp at g, fun g => by rw [g k (by omega)] at h; cases h⟩
    | false =>
      simp only [if_neg (show ¬ (false = true) by decide), Nat.add_zero]
      refine ih.trans ⟨fun g i hi => ?_, fun g i hi => g i (by omega)⟩
      rcases Nat.lt_succ_iff_lt_or_eq.mp hi with e | e
      · exact g i e
      · subst e; exact h
theorem least6 {F m : Nat} (hF : 1000 ≤ F) (hm : m < 2 ^ 31) : mX6_least F (nI m) = some (oI (fstB m.testBit 24)) := by
  unfold mX6_least
  rw [nth6 hF hm]
  simp only [Option.bind_some]
  congr 2
  cases h : fstB m.testBit 24 with
  | none =>
    rw [fstB_none] at h ⊢
    intro k hk
    simp [h k hk]
  | some l =>
    rw [fstB_some] at h ⊢
    refine ⟨h.1, ?_, fun i hi => by simp [h.2.2 i hi]⟩
    have e : cntB m.testBit l = 0 := cnt0.mpr h.2.2
    simp [h.2.1, e]
    rfl
theorem least6s {F m : Nat} (hF : 1000 ≤ F) (hm : m < 2 ^ 24) (h0 : m ≠ 0) : mX6_least F (nI m) = some (nI (lo m)) := by
  rw [least6 hF (by omega), lo_some hm h0]
  rfl
/-- roots -/
def rt (v : Nat) : Nat := match fstB (fun r => decide (v < (r + 1) * (r + 1))) 2048 with
  | some k => k
  | none => 0
theorem rt_some {v : Nat} (h : v < 4194304) : fstB (fun r => decide (v < (r + 1) * (r + 1))) 2048 = some (rt v) := by
  unfold rt
  cases e : fstB (fun r => decide (v < (r + 1) * (r + 1))) 2048 with
  | some k => rfl
  | none =>
    have := fstB_none.mp e 2047 (by omega)
    simp at this
    omega
theorem rt_spec {v : Nat} (h : v < 4194304) : rt v * rt v ≤ v ∧ v < (rt v + 1) * (rt v + 1) ∧ rt v < 2048 := by
  have ⟨h1, h2, h3⟩ := fstB_some.mp (rt_some h)
  refine ⟨?_, of_decide_eq_true h2, h1⟩
  cases e : rt v with
  | zero => omega
  | succ r =>
    have := h3 r (by omega)
    simp at this
    exact this
theorem rt_uniq {v r : Nat} (h1 : r * r ≤ v) (h2 : v < (r + 1) * (r + 1)) (h : v < 4194304) : rt v = r := by
  have ⟨g1, g2, g3⟩ := rt_spec h
  rcases Nat.lt_trichotomy (rt v) r with e | e | e
  · have : (rt v + 1) * (rt v + 1) ≤ r * r := Nat.mul_le_mul (by omega) (by omega)
    omega
  · exact e
  · have : (r + 1) * (r + 1) ≤ rt v * rt v := Nat.mul_le_mul (by omega) (by omega)
    omega
theorem sqn_lt {a : Nat} (h : a ≤ 4095) : a * a ≤ 16769025 := Nat.mul_le_mul h h
theorem root6 {F v : Nat} (hF : 1000 ≤ F) (hv : v < 4194304) : mX6_root F (nI v) = some (nI (rt v)) := by
  unfold mX6_root
  refine Exists.elim (lpI (body := fun s5 : Int32 × Int32 => mX6_root_b5 F (nI v) s5.1 s5.2) (F := F) (fun k (r : Nat) => (nI r, dn (11 - k)))
    (fun k r => r * r ≤ v ∧ v < (r + 2 ^ (11 - k)) * (r + 2 ^ (11 - k))) 0 11 nI 0 (by omega) (s0 := ((0 : Int32), (10 : Int32))) rfl
    ⟨by omega, by simpa using hv⟩ (fun k r _ hk hI => ?_) (fun r _ => ?_) (by omega)) ?_
  rotate_right 1
  · intro r hh_; obtain ⟨e, h1, h2⟩ := hh_
    rw [e, rt_uniq h1 (by simpa using h2) hv]
  · have hr : r < 2048 := by
      refine Nat.lt_of_not_le (fun g => ?_)
      have : 2048 * 2048 ≤ r * r := Nat.mul_le_mul g g
      omega
    have e11 : 11 - k = (10 - k) + 1 := by omega
    have hp : 2 ^ (10 - k) ≤ 2 ^ 10 := Nat.pow_le_pow_right (by omega) (by omega)
    have hm := sqn_lt (a := r + 2 ^ (10 - k)) (by omega)
    have hd : dn (11 - k) = nI (10 - k) := (congrArg dn e11).trans rfl
    have hd2 : nI (10 - k) + -1 = dn (11 - (k + 1)) := dn_pred.trans (congrArg dn (by omega))
    have hb : (1 : Int32) <<< (nI (10 - k) &&& 31) = nI (2 ^ (10 - k)) := nI_bit (by omega)
    by_cases g : v < (r + 2 ^ (10 - k)) * (r + 2 ^ (10 - k))
    · refine ⟨r, ?_, hI.1, ?_⟩
      · simp (disch := omega) [mX6_root_b5, Option.bind_some, nI_leE, nI_ltE, nI_eqE, nI_1, nI_add, rdI_n, rdL_n, wrI_n, wrL_n, has6b, bI_0, bI_1, nI_m1, nI_lt0, nI_le0, nI_0le, nI_eq0, leF, leT, ltF, ltT, eqF, hd, hd2, hb, pk_mul, g]
      · rw [show 11 - (k + 1) = 10 - k by omega]; exact g
    · refine ⟨r + 2 ^ (10 - k), ?_, by omega, ?_⟩
      · simp (disch := omega) [mX6_root_b5, Option.bind_some, nI_leE, nI_ltE, nI_eqE, nI_1, nI_add, rdI_n, rdL_n, wrI_n, wrL_n, has6b, bI_0, bI_1, nI_m1, nI_lt0, nI_le0, nI_0le, nI_eq0, leF, leT, ltF, ltT, eqF, hd, hd2, hb, pk_mul, g]
      · have h3 := hI.2
        rw [e11, Nat.pow_succ] at h3
        rw [show 11 - (k + 1) = 10 - k by omega, show r + 2 ^ (10 - k) + 2 ^ (10 - k) = r + 2 ^ (10 - k) * 2 by omega]
        exact h3
  · simp [mX6_root_b5, dn, m1_lt0]
theorem minI {a b : Nat} (ha : a < 2 ^ 31) (hb : b < 2 ^ 31) : (if nI b < nI a then nI b else nI a) = nI (min a b) := by
  by_cases h : b < a
  · rw [if_pos ((nI_ltI hb ha).mpr h), Nat.min_eq_right (by omega)]
  · rw [if_neg (fun g => h ((nI_ltI hb ha).mp g)), Nat.min_eq_left (by omega)]
theorem maxI {a b : Nat} (ha : a < 2 ^ 31) (hb : b < 2 ^ 31) : (if nI a < nI b then nI b else nI a) = nI (max a b) := by
  by_cases h : a < b
  · rw [if_pos ((nI_ltI ha hb).mpr h), Nat.max_eq_right (by omega)]
  · rw [if_neg (fun g => h ((nI_ltI ha hb).mp g)), Nat.max_eq_left (by omega)]
/-- a pair as one number -/
def kf (X Y : Nat → Nat) (p q : Nat) : Nat := ap X Y p q * 1024 + min p q * 32 + max p q
theorem kf_comm (X Y : Nat → Nat) (p q : Nat) : kf X Y p q = kf X Y q p := by unfold kf; rw [ap_comm, Nat.min_comm, Nat.max_comm]
theorem kf_ap {X Y : Nat → Nat} {p q : Nat} (hp : p < 32) (hq : q < 32) : kf X Y p q / 1024 = ap X Y p q := by unfold kf; omega
theorem kf_min {X Y : Nat → Nat} {p q : Nat} (hp : p < 32) (hq : q < 32) : kf X Y p q / 32 % 32 = min p q := by unfold kf; omega
theorem kf_max {X Y : Nat → Nat} {p q : Nat} (hp : p < 32) (hq : q < 32) : kf X Y p q % 32 = max p q := by unfold kf; omega
/-- longs -/
theorem lN_tn {n : Nat} (h : n < 2 ^ 64) : (lN n).toBitVec.toNat = n := Nat.mod_eq_of_lt h
theorem lN_ti {n : Nat} (h : n < 2 ^ 63) : (lN n).toInt = (n : Int) := lg_ofNat_toInt h
theorem lN_leE {a b : Nat} (ha : a < 2 ^ 63) (hb : b < 2 ^ 63) : (lN a ≤ lN b) = (a ≤ b) := by
  apply propext
  rw [Int64.le_iff_toInt_le, lN_ti ha, lN_ti hb]; omega
theorem lN_ltE {a b : Nat} (ha : a < 2 ^ 63) (hb : b < 2 ^ 63) : (lN a < lN b) = (a < b) := by
  apply propext
  rw [Int64.lt_iff_toInt_lt, lN_ti ha, lN_ti hb]; omega
theorem lN_eqE {a b : Nat} (ha : a < 2 ^ 63) (hb : b < 2 ^ 63) : (lN a = lN b) = (a = b) := by
  apply propext
  rw [← Int64.toInt_inj, lN_ti ha, lN_ti hb]; omega
theorem lN_or {a b : Nat} (ha : a < 2 ^ 63) (hb : b < 2 ^ 63) : lN a ||| lN b = lN (a ||| b) := by
  apply Int64.toBitVec_inj.mp
  apply BitVec.eq_of_toNat_eq
  have hlt : a ||| b < 2 ^ 63 := Nat.or_lt_two_pow ha hb
  rw [Int64.toBitVec_or, BitVec.toNat_or, lN_tn (by omega), lN_tn (by omega), lN_tn (by omega)]
theorem lN_and {a b : Nat} (ha : a < 2 ^ 63) (hb : b < 2 ^ 63) : lN a &&& lN b = lN (a &&& b) := by
  apply Int64.toBitVec_inj.mp
  apply BitVec.eq_of_toNat_eq
  have hlt : a &&& b ≤ a := Nat.and_le_left
  rw [Int64.toBitVec_and, BitVec.toNat_and, lN_tn (by omega), lN_tn (by omega), lN_tn (by omega)]
theorem lN_shl {n : Nat} (s : Int64) (k : Nat) (hs : (s.toBitVec.smod 64).toNat = k) (h : n * 2 ^ k < 2 ^ 63) : lN n <<< s = lN (n * 2 ^ k) := by
  have hn : n < 2 ^ 64 := Nat.lt_of_le_of_lt (Nat.le_mul_of_pos_right n (Nat.two_pow_pos k)) (Nat.lt_trans h (by omega))
  apply Int64.toBitVec_inj.mp
  apply BitVec.eq_of_toNat_eq
  show ((lN n).toBitVec <<< (s.toBitVec.smod 64).toNat).toNat = _
  rw [hs, BitVec.toNat_shiftLeft, Nat.shiftLeft_eq, lN_tn hn, lN_tn (by omega), Nat.mod_eq_of_lt (by omega)]
theorem lN_shr {n : Nat} (h : n < 2 ^ 63) (s : Int64) (k : Nat) (hs : (s.toBitVec.smod 64).toNat = k) : lN n >>> s = lN (n / 2 ^ k) := by
  apply Int64.toInt_inj.mp
  have h2 : n / 2 ^ k ≤ n := Nat.div_le_self _ _
  show ((lN n).toBitVec.sshiftRight (s.toBitVec.smod 64).toNat).toInt = _
  rw [hs, BitVec.toInt_sshiftRight]
  show (lN n).toInt >>> k = _
  rw [lN_ti h, lN_ti (by omega), Int.shiftRight_eq_div_pow]
  rfl
theorem s64_5 : (((((5 : Int32)).toInt64 &&& 63 : Int64)).toBitVec.smod 64).toNat = 5 := by decide +kernel
theorem s64_10 : (((((10 : Int32)).toInt64 &&& 63 : Int64)).toBitVec.smod 64).toNat = 10 := by decide +kernel
theorem s64_20 : (((((20 : Int32)).toInt64 &&& 63 : Int64)).toBitVec.smod 64).toNat = 20 := by decide +kernel
theorem s32_5 : ((((5 : Int32) &&& 31)).toBitVec.smod 32).toNat = 5 := by decide +kernel
theorem or_add {a b k : Nat} (hb : b < 2 ^ k) : a * 2 ^ k ||| b = a * 2 ^ k + b := by
  rw [← Nat.shiftLeft_eq, Nat.shiftLeft_add_eq_or_of_lt hb]
theorem key2 {F N p q : Nat} {X Y : Nat → Nat} {xs ys : Nat → Int32} (hN : N ≤ 24) (hP : PT N X Y xs ys) (hI : IN N X Y) (hp : p < N) (hq : q < N) :
    mX2_keyOf F (nI p) (nI q) xs ys = some (lN (kf X Y p q)) := by
  have a1 := ap_lt (hI p hp).1 (hI q hq).1 (hI p hp).2 (hI q hq).2
  unfold mX2_keyOf
  rw [apart4 hN hP hI hp hq]
  have e5 : nI (min p q) <<< ((5 : Int32) &&& 31) = nI (min p q * 2 ^ 5) := pk_shlN _ 5 s32_5 (by omega)
  have e10 : lN (ap X Y p q) <<< (((10 : Int32)).toInt64 &&& 63) = lN (ap X Y p q * 2 ^ 10) := lN_shl _ 10 s64_10 (by omega)
  simp (disch := omega) only [Option.bind_some, minI, maxI, nI_l, e5, e10]
  rw [lN_or (by omega) (by omega), or_add (by omega)]
  have e : ap X Y p q * 2 ^ 10 + min p q * 2 ^ 5 = (ap X Y p q * 32 + min p q) * 2 ^ 5 := by omega
  rw [e, lN_or (by omega) (by omega), or_add (by omega)]
  congr 2
  unfold kf
  omega
/-- an int is a point's number, or it isn't -/
theorem pt_or (a : Int32) {N : Nat} (hN : N < 2 ^ 31) : (∃ p, p < N ∧ a = nI p) ∨ (a.toInt < 0 ∨ (N : Int) ≤ a.toInt) := by
  by_cases h : 0 ≤ a.toInt ∧ a.toInt < N
  · exact Or.inl ⟨a.toInt.toNat, by omega, tI_nI h.1⟩
  · exact Or.inr (by omega)
theorem isPoint8 (F : Nat) {N : Nat} (hN : N ≤ 24) (a : Int32) : mX8_isPoint F a (nI N) = some (bI (decide (0 ≤ a.toInt ∧ a.toInt < N))) := by
  unfold mX8_isPoint
  by_cases h1 : a < 0
  · rw [if_pos h1]
    have : a.toInt < 0 := tI_lt.mp h1
    rw [show decide (0 ≤ a.toInt ∧ a.toInt < N) = false by simp; omega]; rfl
  · rw [if_neg h1]
    have g1 : ¬ a.toInt < 0 := fun h => h1 (tI_lt.mpr h)
    by_cases h2 : nI N ≤ a
    · rw [if_pos h2]
      have := tI_le.mp h2
      rw [tI_n (by omega)] at this
      rw [show decide (0 ≤ a.toInt ∧ a.toInt < N) = false by simp; omega]; rfl
    · rw [if_neg h2]
      have g2 : ¬ (nI N).toInt ≤ a.toInt := fun h => h2 (tI_le.mpr h)
      rw [tI_n (by omega)] at g2
      rw [show decide (0 ≤ a.toInt ∧ a.toInt < N) = true by simp; omega]; rfl
theorem rng8 (x l h : Int32) : (if x < l then (some (0 : Int32)) else (if h < x then (some (0 : Int32)) else (some (1 : Int32)))) = some (bI (decide (l.toInt ≤ x.toInt ∧ x.toInt ≤ h.toInt))) := by
  by_cases h1 : x < l
  · have := tI_lt.mp h1
    rw [if_pos h1, show decide (l.toInt ≤ x.toInt ∧ x.toInt ≤ h.toInt) = false from decide_eq_false (by omega)]; rfl
  · have g1 : ¬ x.toInt < l.toInt := fun q => h1 (tI_lt.mpr q)
    rw [if_neg h1]
    by_cases h2 : h < x
    · have := tI_lt.mp h2
      rw [if_pos h2, show decide (l.toInt ≤ x.toInt ∧ x.toInt ≤ h.toInt) = false from decide_eq_false (by omega)]; rfl
    · have g2 : ¬ h.toInt < x.toInt := fun q => h2 (tI_lt.mpr q)
      rw [if_neg h2, show decide (l.toInt ≤ x.toInt ∧ x.toInt ≤ h.toInt) = true from decide_eq_true (by omega)]; rfl
theorem i_0 : (0 : Int32).toInt = 0 := by decide +kernel
theorem i_1 : (1 : Int32).toInt = 1 := by decide +kernel
theorem i_10 : (10 : Int32).toInt = 10 := by decide +kernel
theorem i_99 : (99 : Int32).toInt = 99 := by decide +kernel
theorem isWeight8 (F : Nat) (a : Int32) : mX8_isWeight F a = some (bI (decide (1 ≤ a.toInt ∧ a.toInt ≤ 99))) := by
  unfold mX8_isWeight
  rw [rng8, i_1, i_99]
theorem isZoom8 (F : Nat) (a : Int32) : mX8_isZoom F a = some (bI (decide (0 ≤ a.toInt ∧ a.toInt ≤ 10))) := by
  unfold mX8_isZoom
  rw [rng8, i_0, i_10]
/-- whether a point can come -/
def canB (N : Nat) (xs ys : Nat → Int32) (a b : Int32) : Bool :=
  decide (0 ≤ a.toInt ∧ a.toInt < 1024 ∧ 0 ≤ b.toInt ∧ b.toInt < 1024 ∧ N < 24) && decide (fstB (fun i => decide (xs i = a) && decide (ys i = b)) N = none)
theorem fst_m1 {p : Nat → Bool} {N : Nat} (hN : N ≤ 24) : (oI (fstB p N) = -1) = (fstB p N = none) := oI_m1 (fun k h => by have := fstB_lt h; omega)
theorem canCome4 {F N : Nat} (hF : 1000 ≤ F) (hN : N ≤ 24) (a b : Int32) (xs ys : Nat → Int32) : mX4_canCome F a b (nI N) xs ys = some (bI (canB N xs ys a b)) := by
  unfold mX4_canCome canB
  rw [find4 hF hN]
  simp only [c0, c1024, c24, tI_lt, tI_le, tI_n (show (0 : Nat) < 2 ^ 31 by omega), tI_n (show (1024 : Nat) < 2 ^ 31 by omega), tI_n (show (24 : Nat) < 2 ^ 31 by omega), tI_n (show N < 2 ^ 31 by omega), Option.bind_some, fst_m1 hN]
  by_cases h1 : a.toInt < (0 : Nat)
  · rw [if_pos h1, show decide (0 ≤ a.toInt ∧ a.toInt < 1024 ∧ 0 ≤ b.toInt ∧ b.toInt < 1024 ∧ N < 24) = false by simp; omega]; rfl
  · rw [if_neg h1]
    by_cases h2 : ((1024 : Nat) : Int) ≤ a.toInt
    · rw [if_pos h2, show decide (0 ≤ a.toInt ∧ a.toInt < 1024 ∧ 0 ≤ b.toInt ∧ b.toInt < 1024 ∧ N < 24) = false by simp; omega]; rfl
    · rw [if_neg h2]
      by_cases h3 : b.toInt < (0 : Nat)
      · rw [if_pos h3, show decide (0 ≤ a.toInt ∧ a.toInt < 1024 ∧ 0 ≤ b.toInt ∧ b.toInt < 1024 ∧ N < 24) = false by simp; omega]; rfl
      · rw [if_neg h3]
        by_cases h4 : ((1024 : Nat) : Int) ≤ b.toInt
        · rw [if_pos h4, show decide (0 ≤ a.toInt ∧ a.toInt < 1024 ∧ 0 ≤ b.toInt ∧ b.toInt < 1024 ∧ N < 24) = false by simp; omega]; rfl
        · rw [if_neg h4]
          by_cases h5 : ((24 : Nat) : Int) ≤ N
          · rw [if_pos h5, show decide (0 ≤ a.toInt ∧ a.toInt < 1024 ∧ 0 ≤ b.toInt ∧ b.toInt < 1024 ∧ N < 24) = false by simp; omega]; rfl
          · rw [if_neg h5, show decide (0 ≤ a.toInt ∧ a.toInt < 1024 ∧ 0 ≤ b.toInt ∧ b.toInt < 1024 ∧ N < 24) = true by simp; omega]
            split <;> rename_i h6 <;> simp [h6] <;> rfl
/-- where a point comes in: behind all that don't come after it -/
def ipB (X Y : Nat → Nat) (a b N : Nat) : Nat := match lstB (fun k => decide (X k < a ∨ X k = a ∧ Y k ≤ b)) N with
  | some k => k + 1
  | none => 0
theorem ip_spec {X Y : Nat → Nat} {a b N : Nat} : ipB X Y a b N ≤ N ∧ (∀ j, ipB X Y a b N ≤ j → j < N → a < X j ∨ X j = a ∧ b < Y j) ∧ (0 < ipB X Y a b N → X (ipB X Y a b N - 1) < a ∨ X (ipB X Y a b N - 1) = a ∧ Y (ipB X Y a b N - 1) ≤ b) := by
  unfold ipB
  cases h : lstB (fun k => decide (X k < a ∨ X k = a ∧ Y k ≤ b)) N with
  | none =>
    refine ⟨Nat.zero_le _, fun j h1 h2 => ?_, fun h => by simp at h⟩
    have := lstB_none.mp h j h2
    simp at this
    omega
  | some k =>
    have ⟨h1, h2, h3⟩ := lstB_some.mp h
    refine ⟨by simp; omega, fun j g1 g2 => ?_, fun _ => ?_⟩
    · simp at g1
      have := h3 j (by omega) g2
      simp at this
      omega
    · simp at h2 ⊢
      exact h2
def insB (f : Nat → Nat) (i v : Nat) : Nat → Nat := fun j => if j < i then f j else if j = i then v else f (j - 1)
def delB (f : Nat → Nat) (i : Nat) : Nat → Nat := fun j => if j < i then f j else f (j + 1)
def T3 : Type := (Nat → Int32) × (Nat → Int32) × (Nat → Int32)
/-- three rows while a place is being made at i -/
def gapT (N : Nat) (W X Y : Nat → Nat) (i : Nat) (t : T3) : Prop :=
  ∀ j, j ≤ N → (j < i → t.1 j = nI (W j) ∧ t.2.1 j = nI (X j) ∧ t.2.2 j = nI (Y j)) ∧ (i < j → t.1 j = nI (W (j - 1)) ∧ t.2.1 j = nI (X (j - 1)) ∧ t.2.2 j = nI (Y (j - 1)))
theorem gap_step {N : Nat} {W X Y : Nat → Nat} {i : Nat} {t : T3} (hi : 0 < i) (h : gapT N W X Y i t) (hN : i ≤ N) : gapT N W X Y (i - 1) (upd t.1 i (t.1 (i - 1)), upd t.2.1 i (t.2.1 (i - 1)), upd t.2.2 i (t.2.2 (i - 1))) := by
  intro j hj
  have ⟨h1, h2⟩ := h j hj
  have ⟨g1, g2⟩ := h (i - 1) (by omega)
  refine ⟨fun e => ?_, fun e => ?_⟩
  · simp only [pk_un (show j ≠ i by omega)]
    exact h1 (by omega)
  · by_cases e2 : j = i
    · subst e2
      simp only [pk_us]
      exact g1 (by omega)
    · simp only [pk_un e2]
      exact h2 (by omega)
theorem gap_0 {N : Nat} {W X Y : Nat → Nat} {ws xs ys : Nat → Int32} (h : ∀ i, i < N → ws i = nI (W i) ∧ xs i = nI (X i) ∧ ys i = nI (Y i)) : gapT N W X Y N (ws, xs, ys) := by
  intro j hj
  exact ⟨fun e => h j e, fun e => by omega⟩
theorem gap_end {N : Nat} {W X Y : Nat → Nat} {i w a b : Nat} {t : T3} (h : gapT N W X Y i t) (hi : i ≤ N) : ∀ j, j < N + 1 → upd t.1 i (nI w) j = nI (insB W i w j) ∧ upd t.2.1 i (nI a) j = nI (insB X i a j) ∧ upd t.2.2 i (nI b) j = nI (insB Y i b j) := by
  intro j hj
  have ⟨h1, h2⟩ := h j (by omega)
  unfold insB
  by_cases e1 : j < i
  · simp only [pk_un (show j ≠ i by omega), if_pos e1]; exact h1 e1
  · by_cases e2 : j = i
    · subst e2; simp only [pk_us, if_neg e1, if_true, and_self]
    · simp only [pk_un e2, if_neg e1, if_neg e2]; exact h2 (by omega)
theorem put4 {F N a b w : Nat} {X Y W : Nat → Nat} {ws xs ys : Nat → Int32} (hF : 1000 ≤ F) (hN : N < 24) (ha : a < 1024) (hb : b < 1024) (hI : IN N X Y)
    (hP : ∀ i, i < N → ws i = nI (W i) ∧ xs i = nI (X i) ∧ ys i = nI (Y i)) :
    ∃ ws' xs' ys', mX4_put F (nI a) (nI b) (nI w) (nI N) ws xs ys = some (nI (N + 1), ws', xs', ys') ∧
      ∀ i, i < N + 1 → ws' i = nI (insB W (ipB X Y a b N) w i) ∧ xs' i = nI (insB X (ipB X Y a b N) a i) ∧ ys' i = nI (insB Y (ipB X Y a b N) b i) := by
  have ⟨s1, s2, s3⟩ := ip_spec (X := X) (Y := Y) (a := a) (b := b) (N := N)
  generalize ipB X Y a b N = i0 at s1 s2 s3 ⊢
  unfold mX4_put
  rw [if_pos (by rw [c24, nI_ltE (by omega) (by omega)]; exact hN)]
  refine Exists.elim (lpI (body := fun s16 : Int32 × (Nat → Int32) × (Nat → Int32) × (Nat → Int32) => mX4_put_b16 F (nI a) (nI b) s16.1 s16.2.1 s16.2.2.1 s16.2.2.2) (F := F)
    (fun k (t : T3) => (nI (N - k), t.1, t.2.1, t.2.2)) (fun k t => gapT N W X Y (N - k) t) 0 (N - i0) (fun t => (nI i0, t.1, t.2.1, t.2.2)) (ws, xs, ys) (by omega) (s0 := (nI N, ws, xs, ys)) rfl
    (gap_0 hP) (fun k t _ hk hI2 => ?_) (fun t hI2 => ?_) (by omega)) ?_
  rotate_right 1
  · intro t hh_; obtain ⟨e, hg⟩ := hh_
    rw [e]
    rw [show N - (N - i0) = i0 by omega] at hg
    refine ⟨upd t.1 i0 (nI w), upd t.2.1 i0 (nI a), upd t.2.2 i0 (nI b), ?_, gap_end hg s1⟩
    simp (disch := omega) only [Option.bind_some, nI_leE, nI_ltE, nI_eqE, nI_1, nI_add, rdI_n, rdL_n, wrI_n, wrL_n, has6b, bI_0, bI_1, nI_m1, nI_lt0, nI_le0, nI_0le, nI_eq0, leF, leT, ltF, ltT, eqF]
  · refine ⟨_, ?_, by have := gap_step (by omega) hI2 (by omega); rw [show N - k - 1 = N - (k + 1) by omega] at this; exact this⟩
    have ⟨g1, g2⟩ := (hI2 (N - (k + 1)) (by omega)).1 (by omega)
    have q := s2 (N - (k + 1)) (by omega) (by omega)
    have ⟨q1, q2⟩ := hI (N - (k + 1)) (by omega)
    have e1 : nI (N - k) - 1 = nI (N - (k + 1)) := nI_s1 (a := N - k) (by omega)
    have e2 : nI (N - k) + -1 = nI (N - (k + 1)) := nI_a1 (a := N - k) (by omega)
    by_cases h1 : a < X (N - (k + 1))
    · simp (disch := omega) [mX4_put_b16, mX4_move, Option.bind_some, nI_leE, nI_ltE, nI_eqE, nI_1, nI_add, rdI_n, rdL_n, wrI_n, wrL_n, has6b, bI_0, bI_1, nI_m1, nI_lt0, nI_le0, nI_0le, nI_eq0, leF, leT, ltF, ltT, eqF, e1, e2, g2, h1]
    · have h2 : X (N - (k + 1)) = a := by omega
      have h3 : ¬ Y (N - (k + 1)) ≤ b := by omega
      simp (disch := omega) [mX4_put_b16, mX4_move, Option.bind_some, nI_leE, nI_ltE, nI_eqE, nI_1, nI_add, rdI_n, rdL_n, wrI_n, wrL_n, has6b, bI_0, bI_1, nI_m1, nI_lt0, nI_le0, nI_0le, nI_eq0, leF, leT, ltF, ltT, eqF, e1, e2, g2, h1, h2, h3]
  · rw [show N - (N - i0) = i0 by omega] at hI2 ⊢
    by_cases h0 : i0 = 0
    · subst h0
      simp (disch := omega) [mX4_put_b16, Option.bind_some, nI_leE, nI_ltE, nI_eqE, nI_1, nI_add, rdI_n, rdL_n, wrI_n, wrL_n, has6b, bI_0, bI_1, nI_m1, nI_lt0, nI_le0, nI_0le, nI_eq0, leF, leT, ltF, ltT, eqF]
    · have ⟨g1, g2⟩ := (hI2 (i0 - 1) (by omega)).1 (by omega)
      have q := s3 (by omega)
      have ⟨q1, q2⟩ := hI (i0 - 1) (by omega)
      have e1 : nI i0 - 1 = nI (i0 - 1) := nI_s1 (by omega)
      by_cases h1 : X (i0 - 1) < a
      · have h2 : ¬ a < X (i0 - 1) := by omega
        have h3 : ¬ X (i0 - 1) = a := by omega
        simp (disch := omega) [mX4_put_b16, Option.bind_some, nI_leE, nI_ltE, nI_eqE, nI_1, nI_add, rdI_n, rdL_n, wrI_n, wrL_n, has6b, bI_0, bI_1, nI_m1, nI_lt0, nI_le0, nI_0le, nI_eq0, leF, leT, ltF, ltT, eqF, e1, g2, h2, h3, h0]
      · have h2 : X (i0 - 1) = a := by omega
        have h3 : Y (i0 - 1) ≤ b := by omega
        simp (disch := omega) [mX4_put_b16, Option.bind_some, nI_leE, nI_ltE, nI_eqE, nI_1, nI_add, rdI_n, rdL_n, wrI_n, wrL_n, has6b, bI_0, bI_1, nI_m1, nI_lt0, nI_le0, nI_0le, nI_eq0, leF, leT, ltF, ltT, eqF, e1, g2, h2, h3, h0]
/-- three rows while the place i is being closed -/
def cloT (N : Nat) (W X Y : Nat → Nat) (p i : Nat) (t : T3) : Prop :=
  ∀ j, j < N → (j < i → t.1 j = nI (delB W p j) ∧ t.2.1 j = nI (delB X p j) ∧ t.2.2 j = nI (delB Y p j)) ∧ (i < j → t.1 j = nI (W j) ∧ t.2.1 j = nI (X j) ∧ t.2.2 j = nI (Y j))
theorem clo_0 {N : Nat} {W X Y : Nat → Nat} {p : Nat} {ws xs ys : Nat → Int32} (h : ∀ i, i < N → ws i = nI (W i) ∧ xs i = nI (X i) ∧ ys i = nI (Y i)) : cloT N W X Y p p (ws, xs, ys) := by
  intro j hj
  refine ⟨fun e => ?_, fun e => h j hj⟩
  unfold delB
  rw [if_pos e, if_pos e, if_pos e]
  exact h j hj
theorem clo_step {N : Nat} {W X Y : Nat → Nat} {p i : Nat} {t : T3} (hp : p ≤ i) (h : cloT N W X Y p i t) (hN : i + 1 < N) : cloT N W X Y p (i + 1) (upd t.1 i (t.1 (i + 1)), upd t.2.1 i (t.2.1 (i + 1)), upd t.2.2 i (t.2.2 (i + 1))) := by
  intro j hj
  have ⟨h1, h2⟩ := h j hj
  have ⟨g1, g2⟩ := h (i + 1) (by omega)
  refine ⟨fun e => ?_, fun e => ?_⟩
  · by_cases e2 : j = i
    · subst e2
      simp only [pk_us]
      have := g2 (by omega)
      unfold delB
      rw [if_neg (by omega), if_neg (by omega), if_neg (by omega)]
      exact this
    · simp only [pk_un e2]
      exact h1 (by omega)
  · simp only [pk_un (show j ≠ i by omega)]
    exact h2 (by omega)
theorem drop4 {F N p : Nat} {X Y W : Nat → Nat} {ws xs ys : Nat → Int32} (hF : 1000 ≤ F) (hN : N ≤ 24) (hp : p < N)
    (hP : ∀ i, i < N → ws i = nI (W i) ∧ xs i = nI (X i) ∧ ys i = nI (Y i)) :
    ∃ ws' xs' ys', mX4_drop F (nI p) (nI N) ws xs ys = some (nI (N - 1), ws', xs', ys') ∧
      ∀ i, i < N - 1 → ws' i = nI (delB W p i) ∧ xs' i = nI (delB X p i) ∧ ys' i = nI (delB Y p i) := by
  unfold mX4_drop
  rw [if_neg (by rw [nI_lt0 (by omega)]; exact id), if_pos (by rw [nI_ltE (by omega) (by omega)]; exact hp)]
  refine Exists.elim (lpI (body := fun s17 : Int32 × (Nat → Int32) × (Nat → Int32) × (Nat → Int32) => mX4_drop_b17 F (nI N) s17.1 s17.2.1 s17.2.2.1 s17.2.2.2) (F := F)
    (fun k (t : T3) => (nI (k + 1), t.1, t.2.1, t.2.2)) (fun k t => cloT N W X Y p k t) p (N - 1) (fun t => (nI (N - 1), t.1, t.2.1, t.2.2)) (ws, xs, ys) (by omega) (s0 := (nI (p + 1), ws, xs, ys)) rfl
    (clo_0 hP) (fun k t h1 hk hI2 => ?_) (fun t hI2 => ?_) (by omega)) ?_
  rotate_right 1
  · intro t hh_; obtain ⟨e, hg⟩ := hh_
    simp only [nI_1, Option.bind_some]
    rw [e]
    exact ⟨_, _, _, rfl, fun i hi => (hg i (by omega)).1 hi⟩
  · refine ⟨_, ?_, clo_step h1 hI2 (by omega)⟩
    have e1 : nI (k + 1) - 1 = nI k := nI_s1 (by omega)
    simp (disch := omega) [mX4_drop_b17, mX4_move, Option.bind_some, nI_leE, nI_ltE, nI_eqE, nI_1, nI_add, rdI_n, rdL_n, wrI_n, wrL_n, has6b, bI_0, bI_1, nI_m1, nI_lt0, nI_le0, nI_0le, nI_eq0, leF, leT, ltF, ltT, eqF, e1]
  · have e1 : N - 1 + 1 = N := by omega
    have e2 : nI N - 1 = nI (N - 1) := nI_s1 (by omega)
    simp (disch := omega) [mX4_drop_b17, Option.bind_some, nI_leE, nI_ltE, nI_eqE, nI_1, nI_add, rdI_n, rdL_n, wrI_n, wrL_n, has6b, bI_0, bI_1, nI_m1, nI_lt0, nI_le0, nI_0le, nI_eq0, leF, leT, ltF, ltT, eqF, e1, e2]
theorem copy4 {F N : Nat} (hF : 1000 ≤ F) (hN : N ≤ 24) (c : Int32) (ws xs ys us vs zs : Nat → Int32) :
    ∃ ws' xs' ys', mX4_copy F c (nI N) ws xs ys us vs zs = some (nI N, ws', xs', ys') ∧ ∀ i, i < N → ws' i = us i ∧ xs' i = vs i ∧ ys' i = zs i := by
  unfold mX4_copy
  refine Exists.elim (lpI (body := fun s10 : Int32 × (Nat → Int32) × (Nat → Int32) × (Nat → Int32) => mX4_copy_b10 F (nI N) us vs zs s10.1 s10.2.1 s10.2.2.1 s10.2.2.2) (F := F)
    (fun k (t : T3) => (nI k, t.1, t.2.1, t.2.2)) (fun k t => ∀ i, i < k → t.1 i = us i ∧ t.2.1 i = vs i ∧ t.2.2 i = zs i) 0 N (fun t => (nI N, t.1, t.2.1, t.2.2)) (ws, xs, ys) (by omega) (s0 := ((0 : Int32), ws, xs, ys)) rfl
    (fun i hi => by omega) (fun k t _ hk hI2 => ?_) (fun t hI2 => ?_) (by omega)) ?_
  rotate_right 1
  · intro t hh_; obtain ⟨e, hg⟩ := hh_
    rw [e]
    exact ⟨_, _, _, rfl, hg⟩
  · refine ⟨(upd t.1 k (us k), upd t.2.1 k (vs k), upd t.2.2 k (zs k)), ?_, fun i hi => ?_⟩
    · simp (disch := omega) [mX4_copy_b10, Option.bind_some, nI_leE, nI_ltE, nI_eqE, nI_1, nI_add, rdI_n, rdL_n, wrI_n, wrL_n, has6b, bI_0, bI_1, nI_m1, nI_lt0, nI_le0, nI_0le, nI_eq0, leF, leT, ltF, ltT, eqF]
    · by_cases e2 : i = k
      · subst e2; simp only [pk_us, and_self]
      · simp only [pk_un e2]; exact hI2 i (by omega)
  · simp (disch := omega) [mX4_copy_b10, Option.bind_some, nI_leE, nI_ltE, nI_eqE, nI_1, nI_add, rdI_n, rdL_n, wrI_n, wrL_n, has6b, bI_0, bI_1, nI_m1, nI_lt0, nI_le0, nI_0le, nI_eq0, leF, leT, ltF, ltT, eqF]
def minO (p : Nat → Bool) (f : Nat → Nat) : Nat → Option Nat
  | 0 => none
  | n + 1 => if p n = true then (match minO p f n with
    | none => some (f n)
    | some b => some (min b (f n))) else minO p f n
theorem minO_none {p : Nat → Bool} {f : Nat → Nat} : ∀ {n}, minO p f n = none ↔ ∀ k, k < n → p k = false
  | 0 => ⟨fun _ k h => by omega, fun _ => rfl⟩
  | n + 1 => by
    simp only [minO]
    cases hp : p n with
    | true =>
      simp only [if_true]
      refine ⟨fun g => ?_, fun g => by rw [g n (by omega)] at hp; cases hp⟩
      cases h : minO p f n <;> rw [h] at g <;> cases g
    | false =>
      simp only [if_neg (show ¬ (false = true) by decide)]
      refine minO_none.trans ⟨fun g k hk => ?_, fun g k hk => g k (by omega)⟩
      rcases Nat.lt_succ_iff_lt_or_eq.mp hk with e | e
      · exact g k e
      · subst e; exact hp
theorem minO_some {p : Nat → Bool} {f : Nat → Nat} : ∀ {n m}, minO p f n = some m → (∃ k, k < n ∧ p k = true ∧ f k = m) ∧ ∀ k, k < n → p k = true → m ≤ f k
  | 0, m, h => by cases h
  | n + 1, m, h => by
    simp only [minO] at h
    cases hp : p n with
    | true =>
      rw [if_pos hp] at h
      cases e : minO p f n with
      | none =>
        rw [e] at h
        cases h
        have := minO_none.mp e
        refine ⟨⟨n, by omega, hp, rfl⟩, fun k hk hk2 => ?_⟩
        rcases Nat.lt_succ_iff_lt_or_eq.mp hk with g | g
        · rw [this k g] at hk2; cases hk2
        · subst g; exact Nat.le_refl _
      | some b =>
        rw [e] at h
        cases h
        have ⟨⟨k, k1, k2, k3⟩, h2⟩ := minO_some e
        refine ⟨?_, fun k hk hk2 => ?_⟩
        · by_cases g : b ≤ f n
          · exact ⟨k, by omega, k2, by omega⟩
          · exact ⟨n, by omega, hp, by omega⟩
        · rcases Nat.lt_succ_iff_lt_or_eq.mp hk with g | g
          · have := h2 k g hk2; omega
          · subst g; omega
    | false =>
      rw [if_neg (by rw [hp]; decide)] at h
      have ⟨⟨k, k1, k2, k3⟩, h2⟩ := minO_some h
      refine ⟨⟨k, by omega, k2, k3⟩, fun j hj hj2 => ?_⟩
      rcases Nat.lt_succ_iff_lt_or_eq.mp hj with g | g
      · exact h2 j g hj2
      · subst g; rw [hp] at hj2; cases hj2
/-- the least of what f makes of those of which p holds -/
def leastB (p : Nat → Bool) (f : Nat → Nat) (n : Nat) : Nat := (minO p f n).getD 0
theorem leastB_spec {p : Nat → Bool} {f : Nat → Nat} {n : Nat} (h : ∃ k, k < n ∧ p k = true) : (∃ k, k < n ∧ p k = true ∧ f k = leastB p f n) ∧ ∀ k, k < n → p k = true → leastB p f n ≤ f k := by
  unfold leastB
  cases e : minO p f n with
  | none =>
    obtain ⟨k, h1, h2⟩ := h
    rw [minO_none.mp e k h1] at h2
    cases h2
  | some m => exact minO_some e
theorem leastB_uniq {p : Nat → Bool} {f : Nat → Nat} {n m : Nat} (h : ∃ k, k < n ∧ p k = true ∧ f k = m) (h2 : ∀ k, k < n → p k = true → m ≤ f k) : leastB p f n = m := by
  obtain ⟨k, h1, h3, h4⟩ := h
  have ⟨⟨j, j1, j2, j3⟩, g⟩ := leastB_spec (f := f) ⟨k, h1, h3⟩
  have a := g k h1 h3
  have b := h2 j j1 j2
  omega
/-- a pair, one of which is in G and the other one not -/
def pcB (N G c : Nat) : Bool := decide (c / 32 < N) && decide (c % 32 < N) && G.testBit (c / 32) && !G.testBit (c % 32)
def mkk (X Y : Nat → Nat) (N G : Nat) : Nat := leastB (pcB N G) (fun c => kf X Y (c / 32) (c % 32)) 1024
theorem pc_pair {N G p q : Nat} (hN : N ≤ 24) (hp : p < N) (hq : q < N) (h1 : G.testBit p = true) (h2 : G.testBit q = false) : p * 32 + q < 1024 ∧ pcB N G (p * 32 + q) = true ∧ (p * 32 + q) / 32 = p ∧ (p * 32 + q) % 32 = q := by
  have e1 : (p * 32 + q) / 32 = p := by omega
  have e2 : (p * 32 + q) % 32 = q := by omega
  refine ⟨by omega, ?_, e1, e2⟩
  unfold pcB
  rw [e1, e2, h1, h2]
  simp [hp, hq]
theorem pc_of {N G c : Nat} (h : pcB N G c = true) : c / 32 < N ∧ c % 32 < N ∧ G.testBit (c / 32) = true ∧ G.testBit (c % 32) = false := by
  unfold pcB at h
  simp at h
  exact ⟨h.1.1.1, h.1.1.2, h.1.2, h.2⟩
theorem mkk_spec {X Y : Nat → Nat} {N G : Nat} (hN : N ≤ 24) (h : ∃ p q, p < N ∧ q < N ∧ G.testBit p = true ∧ G.testBit q = false) :
    (∃ p q, p < N ∧ q < N ∧ G.testBit p = true ∧ G.testBit q = false ∧ mkk X Y N G = kf X Y p q) ∧ ∀ p q, p < N → q < N → G.testBit p = true → G.testBit q = false → mkk X Y N G ≤ kf X Y p q := by
  obtain ⟨p, q, hp, hq, h1, h2⟩ := h
  have ⟨a1, a2, a3, a4⟩ := pc_pair hN hp hq h1 h2
  have ⟨⟨c, c1, c2, c3⟩, g⟩ := leastB_spec (f := fun c => kf X Y (c / 32) (c % 32)) ⟨_, a1, a2⟩
  have ⟨d1, d2, d3, d4⟩ := pc_of c2
  refine ⟨⟨c / 32, c % 32, d1, d2, d3, d4, c3.symm⟩, fun p q hp hq h1 h2 => ?_⟩
  have ⟨a1, a2, a3, a4⟩ := pc_pair hN hp hq h1 h2
  have := g _ a1 a2
  rw [a3, a4] at this
  exact this
/-- the new one of a pair -/
def vxB (G k : Nat) : Nat := if G.testBit (k % 32) = true then k / 32 % 32 else k % 32
theorem vx_kf {X Y : Nat → Nat} {G p q : Nat} (hp : p < 32) (hq : q < 32) (h1 : G.testBit p = true) (h2 : G.testBit q = false) : vxB G (kf X Y p q) = q := by
  unfold vxB
  rw [kf_max hp hq, kf_min hp hq]
  rcases Nat.lt_trichotomy p q with e | e | e
  · rw [Nat.max_eq_right (by omega), if_neg (by rw [h2]; decide)]
  · subst e; rw [h1] at h2; cases h2
  · rw [Nat.max_eq_left (by omega), if_pos h1, Nat.min_eq_right (by omega)]
theorem mkk_uniq {X Y : Nat → Nat} {N G p q : Nat} (hN : N ≤ 24) (hp : p < N) (hq : q < N) (h1 : G.testBit p = true) (h2 : G.testBit q = false)
    (h : ∀ p' q', p' < N → q' < N → G.testBit p' = true → G.testBit q' = false → kf X Y p q ≤ kf X Y p' q') : mkk X Y N G = kf X Y p q ∧ vxB G (mkk X Y N G) = q := by
  have ⟨⟨r, s, r1, s1, r2, s2, e⟩, g⟩ := mkk_spec (X := X) (Y := Y) hN ⟨p, q, hp, hq, h1, h2⟩
  have a := g p q hp hq h1 h2
  have b := h r s r1 s1 r2 s2
  have e2 : mkk X Y N G = kf X Y p q := by omega
  exact ⟨e2, by rw [e2]; exact vx_kf (by omega) (by omega) h1 h2⟩
/-- who is in the tree after t steps -/
def GG (X Y : Nat → Nat) (N : Nat) : Nat → Nat
  | 0 => 1
  | t + 1 => GG X Y N t ||| 2 ^ vxB (GG X Y N t) (mkk X Y N (GG X Y N t))
def CK (X Y : Nat → Nat) (N t : Nat) : Nat := mkk X Y N (GG X Y N t)
def VX (X Y : Nat → Nat) (N t : Nat) : Nat := vxB (GG X Y N t) (CK X Y N t)
theorem GG_succ (X Y : Nat → Nat) (N t : Nat) : GG X Y N (t + 1) = GG X Y N t ||| 2 ^ VX X Y N t := rfl
theorem cnt_bit1 : ∀ n, cntB (Nat.testBit 1) (n + 1) = 1
  | 0 => rfl
  | n + 1 => by
    have ih := cnt_bit1 n
    simp only [cntB] at ih ⊢
    rw [ih, show Nat.testBit 1 (n + 1) = false by rw [show (1 : Nat) = 2 ^ 0 from rfl, Nat.testBit_two_pow]; simp]
    rfl
theorem cnt_or {G v : Nat} (h : G.testBit v = false) : ∀ n, cntB (G ||| 2 ^ v).testBit n = cntB G.testBit n + (if v < n then 1 else 0)
  | 0 => by simp [cntB]
  | n + 1 => by
    have ih := cnt_or h n
    simp only [cntB]
    rw [ih, Nat.testBit_or, Nat.testBit_two_pow]
    by_cases e : v = n
    · subst e
      simp [h]
    · simp [e]
      by_cases e2 : v < n
      · simp [e2, show v < n + 1 by omega]; omega
      · simp [e2, show ¬ v < n + 1 by omega]
theorem cnt_all {p : Nat → Bool} : ∀ {n}, (∀ k, k < n → p k = true) → cntB p n = n
  | 0, _ => rfl
  | n + 1, h => by simp only [cntB]; rw [cnt_all (fun k hk => h k (by omega)), h n (by omega)]; rfl
theorem cnt_ex {p : Nat → Bool} {n : Nat} (h : cntB p n < n) : ∃ k, k < n ∧ p k = false := by
  cases e : fstB (fun k => !p k) n with
  | some k =>
    have := fstB_some.mp e
    exact ⟨k, this.1, by simpa using this.2.1⟩
  | none =>
    have := fstB_none.mp e
    rw [cnt_all (fun k hk => by simpa using this k hk)] at h
    omega
theorem GG_spec {X Y : Nat → Nat} {N : Nat} (hN : N ≤ 24) : ∀ t, t < N → (GG X Y N t).testBit 0 = true ∧ GG X Y N t < 2 ^ N ∧ cntB (GG X Y N t).testBit N = t + 1
  | 0, h => by
    refine ⟨(by decide : Nat.testBit 1 0 = true), Nat.lt_of_lt_of_le (show 1 < 2 ^ 1 by decide) (Nat.pow_le_pow_right (by omega) h), ?_⟩
    show cntB (Nat.testBit 1) N = 1
    rw [show N = (N - 1) + 1 by omega]
    exact cnt_bit1 _
  | t + 1, h => by
    have ⟨h1, h2, h3⟩ := GG_spec (X := X) (Y := Y) hN t (by omega)
    obtain ⟨q, q1, q2⟩ := cnt_ex (p := (GG X Y N t).testBit) (n := N) (by omega)
    have ⟨⟨r, s, r1, s1, r2, s2, e⟩, g⟩ := mkk_spec (X := X) (Y := Y) hN ⟨0, q, by omega, q1, h1, q2⟩
    have e2 : VX X Y N t = s := by
      show vxB _ (mkk X Y N _) = s
      rw [e]
      exact vx_kf (by omega) (by omega) r2 s2
    rw [GG_succ, e2]
    refine ⟨by rw [Nat.testBit_or, h1]; rfl, Nat.or_lt_two_pow h2 (Nat.pow_lt_pow_right (by omega) s1), ?_⟩
    rw [cnt_or s2, h3, if_pos s1]
theorem CK_spec {X Y : Nat → Nat} {N t : Nat} (hN : N ≤ 24) (ht : t + 1 < N) : (∃ p, p < N ∧ VX X Y N t < N ∧ (GG X Y N t).testBit p = true ∧ (GG X Y N t).testBit (VX X Y N t) = false ∧ CK X Y N t = kf X Y p (VX X Y N t)) ∧
    ∀ p q, p < N → q < N → (GG X Y N t).testBit p = true → (GG X Y N t).testBit q = false → CK X Y N t ≤ kf X Y p q := by
  have ⟨h1, h2, h3⟩ := GG_spec (X := X) (Y := Y) hN t (by omega)
  obtain ⟨q, q1, q2⟩ := cnt_ex (p := (GG X Y N t).testBit) (n := N) (by omega)
  have ⟨⟨r, s, r1, s1, r2, s2, e⟩, g⟩ := mkk_spec (X := X) (Y := Y) hN ⟨0, q, by omega, q1, h1, q2⟩
  have e2 : VX X Y N t = s := by
    show vxB _ (mkk X Y N _) = s
    rw [e]
    exact vx_kf (by omega) (by omega) r2 s2
  rw [e2]
  exact ⟨⟨r, r1, s1, r2, s2, e⟩, g⟩
/-- keys put in order -/
def ikB (K : Nat → Nat) (k n : Nat) : Nat := match lstB (fun j => decide (K j ≤ k)) n with
  | some j => j + 1
  | none => 0
theorem ik_spec {K : Nat → Nat} {k n : Nat} : ikB K k n ≤ n ∧ (∀ j, ikB K k n ≤ j → j < n → k < K j) ∧ (0 < ikB K k n → K (ikB K k n - 1) ≤ k) := by
  unfold ikB
  cases h : lstB (fun j => decide (K j ≤ k)) n with
  | none =>
    refine ⟨Nat.zero_le _, fun j h1 h2 => ?_, fun h => by simp at h⟩
    have := lstB_none.mp h j h2
    simp at this
    omega
  | some i =>
    have ⟨h1, h2, h3⟩ := lstB_some.mp h
    refine ⟨by simp; omega, fun j g1 g2 => ?_, fun _ => ?_⟩
    · simp at g1
      have := h3 j (by omega) g2
      simp at this
      omega
    · simpa using h2
def KS (X Y : Nat → Nat) (N : Nat) : Nat → Nat → Nat
  | 0 => fun _ => 0
  | t + 1 => insB (KS X Y N t) (ikB (KS X Y N t) (CK X Y N t) t) (CK X Y N t)
theorem KS_succ (X Y : Nat → Nat) (N t : Nat) : KS X Y N (t + 1) = insB (KS X Y N t) (ikB (KS X Y N t) (CK X Y N t) t) (CK X Y N t) := rfl
/-- a key of a pair below N -/
def isK (X Y : Nat → Nat) (N k : Nat) : Prop := ∃ p q, p < q ∧ q < N ∧ k = kf X Y p q
theorem isK_of {X Y : Nat → Nat} {N p q : Nat} (hp : p < N) (hq : q < N) (h : p ≠ q) : isK X Y N (kf X Y p q) := by
  rcases Nat.lt_or_gt_of_ne h with e | e
  · exact ⟨p, q, e, hq, rfl⟩
  · exact ⟨q, p, e, hp, kf_comm X Y p q⟩
theorem CK_isK {X Y : Nat → Nat} {N t : Nat} (hN : N ≤ 24) (ht : t + 1 < N) : isK X Y N (CK X Y N t) := by
  have ⟨⟨p, p1, p2, p3, p4, e⟩, _⟩ := CK_spec (X := X) (Y := Y) hN ht
  rw [e]
  refine isK_of p1 p2 (fun g => ?_)
  rw [g, p4] at p3
  cases p3
theorem isK_spec {X Y : Nat → Nat} {N k : Nat} (hN : N ≤ 24) (h : isK X Y N k) : k / 32 % 32 < k % 32 ∧ k % 32 < N ∧ k = kf X Y (k / 32 % 32) (k % 32) ∧ k / 1024 = ap X Y (k / 32 % 32) (k % 32) := by
  obtain ⟨p, q, h1, h2, e⟩ := h
  have e1 : k / 32 % 32 = p := by rw [e, kf_min (by omega) (by omega), Nat.min_eq_left (by omega)]
  have e2 : k % 32 = q := by rw [e, kf_max (by omega) (by omega), Nat.max_eq_right (by omega)]
  have e3 : k / 1024 = ap X Y p q := by rw [e, kf_ap (by omega) (by omega)]
  rw [e1, e2]
  exact ⟨h1, h2, e, e3⟩
theorem insB_all {P : Nat → Prop} {f : Nat → Nat} {i v n : Nat} (hi : i ≤ n) (h : ∀ j, j < n → P (f j)) (hv : P v) : ∀ j, j < n + 1 → P (insB f i v j) := by
  intro j hj
  unfold insB
  split
  · exact h j (by omega)
  · split
    · exact hv
    · exact h (j - 1) (by omega)
theorem KS_isK {X Y : Nat → Nat} {N : Nat} (hN : N ≤ 24) : ∀ t, t < N → ∀ j, j < t → isK X Y N (KS X Y N t j)
  | 0, _ => fun j hj => by omega
  | t + 1, h => by
    rw [KS_succ]
    exact insB_all (P := isK X Y N) ik_spec.1 (KS_isK hN t (by omega)) (CK_isK hN h)
theorem isK_lt {X Y : Nat → Nat} {N k : Nat} (hN : N ≤ 24) (hI : IN N X Y) (h : isK X Y N k) : k < 2144000000 := by
  obtain ⟨p, q, h1, h2, e⟩ := h
  have := ap_lt (hI p (by omega)).1 (hI q h2).1 (hI p (by omega)).2 (hI q h2).2
  rw [e]
  unfold kf
  omega
theorem bstB_none {p : Nat → Bool} {lt : Nat → Nat → Bool} : ∀ {n}, bstB p lt n = none ↔ ∀ k, k < n → p k = false
  | 0 => ⟨fun _ k h => by omega, fun _ => rfl⟩
  | n + 1 => by
    simp only [bstB]
    cases hp : p n with
    | true =>
      simp only [if_true]
      refine ⟨fun g => ?_, fun g => by rw [g n (by omega)] at hp; cases hp⟩
      cases h : bstB p lt n with
      | none => rw [h] at g; cases g
      | some b => rw [h] at g; simp only [] at g; split at g <;> cases g
    | false =>
      simp only [if_neg (show ¬ (false = true) by decide)]
      refine bstB_none.trans ⟨fun g k hk => ?_, fun g k hk => g k (by omega)⟩
      rcases Nat.lt_succ_iff_lt_or_eq.mp hk with e | e
      · exact g k e
      · subst e; exact hp
theorem bstB_some {p : Nat → Bool} {f : Nat → Nat} : ∀ {n b}, bstB p (fun a b => decide (f a < f b)) n = some b → b < n ∧ p b = true ∧ (∀ k, k < n → p k = true → f b ≤ f k) ∧ ∀ k, k < b → p k = true → f b < f k
  | 0, b, h => by cases h
  | n + 1, b, h => by
    simp only [bstB] at h
    cases hp : p n with
    | true =>
      rw [if_pos hp] at h
      cases e : bstB p (fun a b => decide (f a < f b)) n with
      | none =>
        rw [e] at h
        cases h
        have := bstB_none.mp e
        refine ⟨by omega, hp, fun k hk hk2 => ?_, fun k hk hk2 => ?_⟩
        · rcases Nat.lt_succ_iff_lt_or_eq.mp hk with g | g
          · rw [this k g] at hk2; cases hk2
          · subst g; exact Nat.le_refl _
        · rw [this k hk] at hk2; cases hk2
      | some c =>
        have ⟨h1, h2, h3, h4⟩ := bstB_some e
        rw [e] at h
        by_cases g : f n < f c
        · simp [g] at h
          subst h
          refine ⟨by omega, hp, fun k hk hk2 => ?_, fun k hk hk2 => ?_⟩
          · rcases Nat.lt_succ_iff_lt_or_eq.mp hk with q | q
            · have := h3 k q hk2; omega
            · subst q; omega
          · have := h3 k hk hk2; omega
        · simp [g] at h
          subst h
          refine ⟨by omega, h2, fun k hk hk2 => ?_, h4⟩
          rcases Nat.lt_succ_iff_lt_or_eq.mp hk with q | q
          · exact h3 k q hk2
          · subst q; omega
    | false =>
      rw [if_neg (by rw [hp]; decide)] at h
      have ⟨h1, h2, h3, h4⟩ := bstB_some h
      refine ⟨by omega, h2, fun k hk hk2 => ?_, h4⟩
      rcases Nat.lt_succ_iff_lt_or_eq.mp hk with q | q
      · exact h3 k q hk2
      · subst q; rw [hp] at hk2; cases hk2
def outG (G k : Nat) : Bool := decide (1 ≤ k) && !G.testBit k
theorem grow2 {F N G : Nat} {L : Nat → Nat} {links : Nat → Int64} (hF : 1000 ≤ F) (hN : N ≤ 24) (h1N : 1 ≤ N) (hG : G < 2 ^ 31)
    (hl : ∀ i, 1 ≤ i → i < N → G.testBit i = false → links i = lN (L i) ∧ L i < 2144000000) :
    mX2_nextToGrow F (nI G) (nI N) links = some (oI (bstB (outG G) (fun a b => decide (L a < L b)) N)) := by
  unfold mX2_nextToGrow
  refine lp (fun k => (oI (bstB (outG G) (fun a b => decide (L a < L b)) k), nI k)) 1 N _ h1N (by simp [bstB, outG, oI]; rfl) (fun k hk1 hk => ?_) ?_ (by omega)
  · cases hb : G.testBit k
    · have ho : outG G k = true := by simp [outG, hb, hk1]
      cases e : bstB (outG G) (fun a b => decide (L a < L b)) k with
      | none => simp (disch := omega) [mX2_nextToGrow_b4, Option.bind_some, nI_leE, nI_ltE, nI_eqE, nI_1, nI_add, rdI_n, rdL_n, wrI_n, wrL_n, has6b, bI_0, bI_1, nI_m1, nI_lt0, nI_le0, nI_0le, nI_eq0, leF, leT, ltF, ltT, eqF, hb, bstB, ho, e, oI]
      | some b =>
        have ⟨b1, b2, _, _⟩ := bstB_some e
        simp [outG] at b2
        have ⟨l1, l2⟩ := hl b b2.1 (by omega) b2.2
        have ⟨l3, l4⟩ := hl k hk1 hk hb
        have hc : (0 ≤ lg_cmp (links k) (links b)) = (L b ≤ L k) := by rw [l1, l3, propext (lg_cmp_ge _ _), lN_leE (by omega) (by omega)]
        by_cases g : L b ≤ L k
        · have g2 : ¬ L k < L b := by omega
          simp (disch := omega) [mX2_nextToGrow_b4, Option.bind_some, nI_leE, nI_ltE, nI_eqE, nI_1, nI_add, rdI_n, rdL_n, wrI_n, wrL_n, has6b, bI_0, bI_1, nI_m1, nI_lt0, nI_le0, nI_0le, nI_eq0, leF, leT, ltF, ltT, eqF, hb, bstB, ho, e, oI, hc, g, g2]
        · have g2 : L k < L b := by omega
          simp (disch := omega) [mX2_nextToGrow_b4, Option.bind_some, nI_leE, nI_ltE, nI_eqE, nI_1, nI_add, rdI_n, rdL_n, wrI_n, wrL_n, has6b, bI_0, bI_1, nI_m1, nI_lt0, nI_le0, nI_0le, nI_eq0, leF, leT, ltF, ltT, eqF, hb, bstB, ho, e, oI, hc, g, g2]
    · have ho : outG G k = false := by simp [outG, hb]
      simp (disch := omega) [mX2_nextToGrow_b4, Option.bind_some, nI_leE, nI_ltE, nI_eqE, nI_1, nI_add, rdI_n, rdL_n, wrI_n, wrL_n, has6b, bI_0, bI_1, nI_m1, nI_lt0, nI_le0, nI_0le, nI_eq0, leF, leT, ltF, ltT, eqF, hb, bstB, ho]
  · simp (disch := omega) [mX2_nextToGrow_b4, Option.bind_some, nI_leE, nI_ltE, nI_eqE, nI_1, nI_add, rdI_n, rdL_n, wrI_n, wrL_n, has6b, bI_0, bI_1, nI_m1, nI_lt0, nI_le0, nI_0le, nI_eq0, leF, leT, ltF, ltT, eqF]
/-- one row of longs while a place is being made at i -/
def gapL (N : Nat) (K : Nat → Nat) (i : Nat) (t : Nat → Int64) : Prop := ∀ j, j ≤ N → (j < i → t j = lN (K j)) ∧ (i < j → t j = lN (K (j - 1)))
theorem gapL_step {N : Nat} {K : Nat → Nat} {i : Nat} {t : Nat → Int64} (hi : 0 < i) (h : gapL N K i t) (hN : i ≤ N) : gapL N K (i - 1) (vp_updL t i (t (i - 1))) := by
  intro j hj
  have ⟨h1, h2⟩ := h j hj
  have ⟨g1, g2⟩ := h (i - 1) (by omega)
  refine ⟨fun e => ?_, fun e => ?_⟩
  · rw [pk_uLn (show j ≠ i by omega)]; exact h1 (by omega)
  · by_cases e2 : j = i
    · subst e2; rw [pk_uLs]; exact g1 (by omega)
    · rw [pk_uLn e2]; exact h2 (by omega)
theorem gapL_end {N : Nat} {K : Nat → Nat} {i v : Nat} {t : Nat → Int64} (h : gapL N K i t) (hi : i ≤ N) : ∀ j, j < N + 1 → vp_updL t i (lN v) j = lN (insB K i v j) := by
  intro j hj
  have ⟨h1, h2⟩ := h j (by omega)
  unfold insB
  by_cases e1 : j < i
  · rw [pk_uLn (show j ≠ i by omega), if_pos e1]; exact h1 e1
  · by_cases e2 : j = i
    · subst e2; rw [pk_uLs, if_neg e1, if_pos rfl]
    · rw [pk_uLn e2, if_neg e1, if_neg e2]; exact h2 (by omega)
theorem putKey2 {F n v : Nat} {K : Nat → Nat} {keys : Nat → Int64} (hF : 1000 ≤ F) (hn : n < 24) (hv : v < 2144000000) (hK : ∀ j, j < n → K j < 2144000000) (hk : ∀ j, j < n → keys j = lN (K j)) :
    ∃ keys', mX2_putKey F (lN v) (nI n) keys = some (nI (n + 1), keys') ∧ ∀ j, j < n + 1 → keys' j = lN (insB K (ikB K v n) v j) := by
  have ⟨s1, s2, s3⟩ := ik_spec (K := K) (k := v) (n := n)
  generalize ikB K v n = i0 at s1 s2 s3 ⊢
  unfold mX2_putKey
  rw [if_pos (by rw [c24, nI_ltE (by omega) (by omega)]; exact hn)]
  refine (lpI (body := fun s15 : Int32 × (Nat → Int64) => mX2_putKey_b15 F (lN v) (nI n) s15.1 s15.2) (F := F)
    (fun k (t : Nat → Int64) => (nI (n - k), t)) (fun k t => gapL n K (n - k) t) 0 (n - i0) (fun t => (nI (n + 1), vp_updL t i0 (lN v))) keys (by omega) (s0 := (nI n, keys)) rfl
    (fun j hj => ⟨fun e => hk j e, fun e => by omega⟩) (fun k t _ hk hI2 => ?_) (fun t hI2 => ?_) (by omega)).elim (fun t ht => ⟨_, ht.1, gapL_end (by have := ht.2; rw [show n - (n - i0) = i0 by omega] at this; exact this) s1⟩)
  · refine ⟨_, ?_, by have := gapL_step (by omega) hI2 (by omega); rw [show n - k - 1 = n - (k + 1) by omega] at this; exact this⟩
    have g := (hI2 (n - (k + 1)) (by omega)).1 (by omega)
    have q := s2 (n - (k + 1)) (by omega) (by omega)
    have q2 := hK (n - (k + 1)) (by omega)
    have e1 : nI (n - k) - 1 = nI (n - (k + 1)) := nI_s1 (a := n - k) (by omega)
    have e2 : nI (n - k) + -1 = nI (n - (k + 1)) := nI_a1 (a := n - k) (by omega)
    have hc : (lg_cmp (lN (K (n - (k + 1)))) (lN v) ≤ 0) = False := by
      rw [propext (lg_cmp_le _ _), lN_leE (by omega) (by omega)]
      exact eq_false (by omega)
    simp (disch := omega) [mX2_putKey_b15, Option.bind_some, nI_leE, nI_ltE, nI_eqE, nI_1, nI_add, rdI_n, rdL_n, wrI_n, wrL_n, has6b, bI_0, bI_1, nI_m1, nI_lt0, nI_le0, nI_0le, nI_eq0, leF, leT, ltF, ltT, eqF, e1, e2, g, hc]
  · rw [show n - (n - i0) = i0 by omega] at hI2 ⊢
    by_cases h0 : i0 = 0
    · subst h0
      simp (disch := omega) [mX2_putKey_b15, Option.bind_some, nI_leE, nI_ltE, nI_eqE, nI_1, nI_add, rdI_n, rdL_n, wrI_n, wrL_n, has6b, bI_0, bI_1, nI_m1, nI_lt0, nI_le0, nI_0le, nI_eq0, leF, leT, ltF, ltT, eqF]
    · have g := (hI2 (i0 - 1) (by omega)).1 (by omega)
      have q := s3 (by omega)
      have q2 := hK (i0 - 1) (by omega)
      have e1 : nI i0 - 1 = nI (i0 - 1) := nI_s1 (by omega)
      have hc : (lg_cmp (lN (K (i0 - 1))) (lN v) ≤ 0) = True := by
        rw [propext (lg_cmp_le _ _), lN_leE (by omega) (by omega)]
        exact eq_true q
      simp (disch := omega) [mX2_putKey_b15, Option.bind_some, nI_leE, nI_ltE, nI_eqE, nI_1, nI_add, rdI_n, rdL_n, wrI_n, wrL_n, has6b, bI_0, bI_1, nI_m1, nI_lt0, nI_le0, nI_0le, nI_eq0, leF, leT, ltF, ltT, eqF, e1, g, hc, h0]
/-- the least key from G to i -/
def LL (X Y : Nat → Nat) (N G i : Nat) : Nat := leastB G.testBit (fun p => kf X Y p i) N
theorem LL_1 {X Y : Nat → Nat} {N i : Nat} (hN : 1 ≤ N) : LL X Y N 1 i = kf X Y 0 i := by
  unfold LL
  refine leastB_uniq ⟨0, by omega, by decide, rfl⟩ (fun k hk hk2 => ?_)
  have : k = 0 := by
    rw [show (1 : Nat) = 2 ^ 0 from rfl, Nat.testBit_two_pow] at hk2
    simp at hk2; omega
  rw [this]
  exact Nat.le_refl _
theorem LL_or {X Y : Nat → Nat} {N G v i : Nat} (hv : v < N) (h0 : G.testBit 0 = true) : LL X Y N (G ||| 2 ^ v) i = min (LL X Y N G i) (kf X Y v i) := by
  unfold LL
  have ⟨⟨k, k1, k2, k3⟩, g⟩ := leastB_spec (p := G.testBit) (f := fun p => kf X Y p i) (n := N) ⟨0, by omega, h0⟩
  refine leastB_uniq ?_ (fun j hj hj2 => ?_)
  · by_cases e : leastB G.testBit (fun p => kf X Y p i) N ≤ kf X Y v i
    · exact ⟨k, k1, by rw [Nat.testBit_or, k2]; rfl, by rw [Nat.min_eq_left e]; exact k3⟩
    · exact ⟨v, hv, by rw [Nat.testBit_or, Nat.testBit_two_pow]; simp, by rw [Nat.min_eq_right (by omega)]⟩
  · rw [Nat.testBit_or, Nat.testBit_two_pow] at hj2
    by_cases e : G.testBit j = true
    · have := g j hj e
      omega
    · have e2 : v = j := by
        rw [Bool.not_eq_true _ |>.mp e] at hj2
        simpa using hj2
      subst e2
      omega
theorem kf_lt {X Y : Nat → Nat} {N p q : Nat} (hN : N ≤ 24) (hI : IN N X Y) (hp : p < N) (hq : q < N) : kf X Y p q < 2144000000 := by
  have := ap_lt (hI p hp).1 (hI q hq).1 (hI p hp).2 (hI q hq).2
  unfold kf
  omega
theorem LL_lt {X Y : Nat → Nat} {N G i : Nat} (hN : N ≤ 24) (hI : IN N X Y) (hi : i < N) (h0 : G.testBit 0 = true) : LL X Y N G i < 2144000000 := by
  unfold LL
  have ⟨⟨k, k1, k2, k3⟩, g⟩ := leastB_spec (p := G.testBit) (f := fun p => kf X Y p i) (n := N) ⟨0, by omega, h0⟩
  rw [← k3]
  exact kf_lt hN hI k1 hi
theorem next_spec {X Y : Nat → Nat} {N t : Nat} (hN : N ≤ 24) (ht : t + 1 < N) :
    bstB (outG (GG X Y N t)) (fun a b => decide (LL X Y N (GG X Y N t) a < LL X Y N (GG X Y N t) b)) N = some (VX X Y N t) ∧ LL X Y N (GG X Y N t) (VX X Y N t) = CK X Y N t := by
  have ⟨h1, h2, h3⟩ := GG_spec (X := X) (Y := Y) hN t (by omega)
  obtain ⟨q, q1, q2⟩ := cnt_ex (p := (GG X Y N t).testBit) (n := N) (by omega)
  have ho : ∀ k, outG (GG X Y N t) k = true ↔ (GG X Y N t).testBit k = false := by
    intro k
    unfold outG
    cases hb : (GG X Y N t).testBit k with
    | true => simp
    | false =>
      simp
      cases k with
      | zero => rw [h1] at hb; cases hb
      | succ k => omega
  cases e : bstB (outG (GG X Y N t)) (fun a b => decide (LL X Y N (GG X Y N t) a < LL X Y N (GG X Y N t) b)) N with
  | none =>
    have := bstB_none.mp e q q1
    rw [(ho q).mpr q2] at this
    cases this
  | some b =>
    have ⟨b1, b2, b3, b4⟩ := bstB_some e
    have b5 := (ho b).mp b2
    have ⟨⟨k, k1, k2, k3⟩, g⟩ := leastB_spec (p := (GG X Y N t).testBit) (f := fun p => kf X Y p b) (n := N) ⟨0, by omega, h1⟩
    have u := mkk_uniq (X := X) (Y := Y) hN k1 b1 k2 b5 (fun p' q' hp' hq' h1' h2' => by
      have a := b3 q' hq' ((ho q').mpr h2')
      have ⟨_, g'⟩ := leastB_spec (p := (GG X Y N t).testBit) (f := fun p => kf X Y p q') (n := N) ⟨0, by omega, h1⟩
      have c := g' p' hp' h1'
      have d : kf X Y k b = LL X Y N (GG X Y N t) b := k3
      have d2 : LL X Y N (GG X Y N t) q' ≤ kf X Y p' q' := c
      omega)
    have e2 : VX X Y N t = b := u.2
    have e3 : CK X Y N t = kf X Y k b := u.1
    rw [e2]
    exact ⟨rfl, by rw [e3]; exact k3.symm⟩
theorem grow2_b82 {F N G v : Nat} {X Y : Nat → Nat} {xs ys : Nat → Int32} {links : Nat → Int64} (hF : 1000 ≤ F) (hN : N ≤ 24) (h1N : 1 ≤ N) (hP : PT N X Y xs ys) (hI : IN N X Y) (hG : G < 2 ^ N) (hv : v < N) (h0 : G.testBit 0 = true)
    (hl : ∀ i, 1 ≤ i → i < N → G.testBit i = false → links i = lN (LL X Y N G i)) :
    ∃ links', loop (fun s82 : Int32 × (Nat → Int64) => mX2_growTree_b82 F (nI N) xs ys (nI v) (nI (G ||| 2 ^ v)) s82.1 s82.2) F ((1 : Int32), links) = some links' ∧
      ∀ i, 1 ≤ i → i < N → (G ||| 2 ^ v).testBit i = false → links' i = lN (LL X Y N (G ||| 2 ^ v) i) := by
  have hG2 : G ||| 2 ^ v < 2 ^ N := Nat.or_lt_two_pow hG (Nat.pow_lt_pow_right (by omega) hv)
  have hG3 : G ||| 2 ^ v < 2 ^ 31 := Nat.lt_of_lt_of_le hG2 (Nat.pow_le_pow_right (by omega) (by omega))
  refine Exists.elim (lpI (body := fun s82 : Int32 × (Nat → Int64) => mX2_growTree_b82 F (nI N) xs ys (nI v) (nI (G ||| 2 ^ v)) s82.1 s82.2) (F := F)
    (fun k (t : Nat → Int64) => (nI k, t)) (fun k t => ∀ i, 1 ≤ i → i < N → (G ||| 2 ^ v).testBit i = false → t i = if i < k then lN (LL X Y N (G ||| 2 ^ v) i) else lN (LL X Y N G i)) 1 N (fun t => t) links h1N (s0 := ((1 : Int32), links)) rfl
    (fun i h1 h2 h3 => by
      rw [if_neg (by omega)]
      rw [Nat.testBit_or] at h3
      exact hl i h1 h2 (by simp at h3; exact h3.1)) (fun k t hk1 hk hI2 => ?_) (fun t hI2 => ?_) (by omega)) ?_
  rotate_right 1
  · intro t hh_; obtain ⟨e, hg⟩ := hh_
    refine ⟨t, e, fun i h1 h2 h3 => ?_⟩
    have := hg i h1 h2 h3
    rw [if_pos h2] at this
    exact this
  · cases hb : (G ||| 2 ^ v).testBit k with
    | true =>
      refine ⟨t, by simp (disch := omega) [mX2_growTree_b82, Option.bind_some, nI_leE, nI_ltE, nI_eqE, nI_1, nI_add, rdI_n, rdL_n, wrI_n, wrL_n, has6b, bI_0, bI_1, nI_m1, nI_lt0, nI_le0, nI_0le, nI_eq0, leF, leT, ltF, ltT, eqF, hb], fun i h1 h2 h3 => ?_⟩
      have := hI2 i h1 h2 h3
      have e2 : i ≠ k := fun e2 => by rw [e2, hb] at h3; cases h3
      rw [this]
      by_cases e3 : i < k
      · rw [if_pos e3, if_pos (by omega)]
      · rw [if_neg e3, if_neg (by omega)]
    | false =>
      have tk := hI2 k hk1 hk hb
      rw [if_neg (by omega)] at tk
      have k2 := key2 (F := F) hN hP hI hv hk
      have b1 := kf_lt hN hI hv hk
      have b2 := LL_lt hN hI hk h0 (X := X) (Y := Y)
      have hm : (if lN (kf X Y v k) < lN (LL X Y N G k) then lN (kf X Y v k) else lN (LL X Y N G k)) = lN (LL X Y N (G ||| 2 ^ v) k) := by
        rw [LL_or hv h0]
        by_cases q : kf X Y v k < LL X Y N G k
        · rw [if_pos (by rw [lN_ltE (by omega) (by omega)]; exact q), Nat.min_eq_right (by omega)]
        · rw [if_neg (by rw [lN_ltE (by omega) (by omega)]; exact q), Nat.min_eq_left (by omega)]
      refine ⟨vp_updL t k (lN (LL X Y N (G ||| 2 ^ v) k)), by simp (disch := omega) [mX2_growTree_b82, Option.bind_some, nI_leE, nI_ltE, nI_eqE, nI_1, nI_add, rdI_n, rdL_n, wrI_n, wrL_n, has6b, bI_0, bI_1, nI_m1, nI_lt0, nI_le0, nI_0le, nI_eq0, leF, leT, ltF, ltT, eqF, hb, tk, k2, hm], fun i h1 h2 h3 => ?_⟩
      by_cases e2 : i = k
      · subst e2
        rw [pk_uLs, if_pos (by omega)]
      · rw [pk_uLn e2, hI2 i h1 h2 h3]
        by_cases e3 : i < k
        · rw [if_pos e3, if_pos (by omega)]
        · rw [if_neg e3, if_neg (by omega)]
  · simp (disch := omega) [mX2_growTree_b82, Option.bind_some, nI_leE, nI_ltE, nI_eqE, nI_1, nI_add, rdI_n, rdL_n, wrI_n, wrL_n, has6b, bI_0, bI_1, nI_m1, nI_lt0, nI_le0, nI_0le, nI_eq0, leF, leT, ltF, ltT, eqF]
theorem growTree2 {F N : Nat} {X Y : Nat → Nat} {xs ys : Nat → Int32} (hF : 1000 ≤ F) (hN : N ≤ 24) (hP : PT N X Y xs ys) (hI : IN N X Y) (c : Int32) (keys links : Nat → Int64) :
    ∃ keys' links', mX2_growTree F c (nI N) keys links xs ys = some (nI (N - 1), keys', links') ∧ ∀ j, j < N - 1 → keys' j = lN (KS X Y N (N - 1) j) := by
  unfold mX2_growTree
  by_cases h1N : N = 0
  · subst h1N
    have e1 : loop (fun s9 : Int32 × (Nat → Int64) => mX2_growTree_b9 F (nI 0) xs ys s9.1 s9.2) F ((1 : Int32), links) = some links :=
      lp (fun _ => ((1 : Int32), links)) 0 0 _ (by omega) rfl (fun k _ hk => by omega) (by simp only [mX2_growTree_b9, if_pos (show (nI 0 ≤ (1 : Int32)) by decide +kernel)]) (by omega)
    rw [e1]
    simp only [Option.bind_some]
    refine ⟨keys, links, ?_, fun j hj => by omega⟩
    refine lp (fun _ => ((1 : Int32), (1 : Int32), (0 : Int32), keys, links)) 0 0 _ (by omega) rfl (fun k _ hk => by omega) ?_ (by omega)
    have : (nI 0 ≤ (1 : Int32)) := by decide +kernel
    simp only [mX2_growTree_b40, if_pos this]
    rfl
  · obtain ⟨l1, e1, g1⟩ := lpI (body := fun s9 : Int32 × (Nat → Int64) => mX2_growTree_b9 F (nI N) xs ys s9.1 s9.2) (F := F)
      (fun k (t : Nat → Int64) => (nI k, t)) (fun k t => ∀ i, 1 ≤ i → i < k → t i = lN (kf X Y 0 i)) 1 N (fun t => t) links (by omega) (s0 := ((1 : Int32), links)) rfl
      (fun i h1 h2 => by omega) (fun k t hk1 hk hI2 => by
        have k2 := key2 (F := F) (p := 0) hN hP hI (by omega) hk
        refine ⟨vp_updL t k (lN (kf X Y 0 k)), by simp (disch := omega) [mX2_growTree_b9, c0, Option.bind_some, nI_leE, nI_ltE, nI_eqE, nI_1, nI_add, rdI_n, rdL_n, wrI_n, wrL_n, has6b, bI_0, bI_1, nI_m1, nI_lt0, nI_le0, nI_0le, nI_eq0, leF, leT, ltF, ltT, eqF, k2], fun i h1 h2 => ?_⟩
        by_cases e2 : i = k
        · subst e2; rw [pk_uLs]
        · rw [pk_uLn e2]; exact hI2 i h1 (by omega)) (fun t hI2 => by simp (disch := omega) [mX2_growTree_b9, Option.bind_some, nI_leE, nI_ltE, nI_eqE, nI_1, nI_add, rdI_n, rdL_n, wrI_n, wrL_n, has6b, bI_0, bI_1, nI_m1, nI_lt0, nI_le0, nI_0le, nI_eq0, leF, leT, ltF, ltT, eqF]) (by omega)
    rw [e1]
    simp only [Option.bind_some]
    refine Exists.elim (lpI (body := fun s40 : Int32 × Int32 × Int32 × (Nat → Int64) × (Nat → Int64) => mX2_growTree_b40 F (nI N) xs ys s40.1 s40.2.1 s40.2.2.1 s40.2.2.2.1 s40.2.2.2.2) (F := F)
      (fun k (t : (Nat → Int64) × (Nat → Int64)) => (nI (GG X Y N (k - 1)), nI k, nI (k - 1), t.1, t.2))
      (fun k t => (∀ j, j < k - 1 → t.1 j = lN (KS X Y N (k - 1) j)) ∧ ∀ i, 1 ≤ i → i < N → (GG X Y N (k - 1)).testBit i = false → t.2 i = lN (LL X Y N (GG X Y N (k - 1)) i)) 1 N (fun t => (nI (N - 1), t.1, t.2)) (keys, l1) (by omega) (s0 := ((1 : Int32), (1 : Int32), (0 : Int32), keys, l1)) rfl
      ⟨fun j hj => by omega, fun i h1 h2 h3 => (g1 i h1 h2).trans (congrArg lN (LL_1 (by omega)).symm)⟩ (fun k t hk1 hk hI2 => ?_) (fun t hI2 => ?_) (by omega)) ?_
    rotate_right 1
    · intro t hh_; obtain ⟨e, hg⟩ := hh_
      exact ⟨t.1, t.2, e, hg.1⟩
    · obtain ⟨s, rfl⟩ : ∃ s, k = s + 1 := ⟨k - 1, by omega⟩
      simp only [Nat.add_sub_cancel] at hI2 ⊢
      have ⟨h1, h2, h3⟩ := GG_spec (X := X) (Y := Y) hN s (by omega)
      have hG31 : GG X Y N s < 2 ^ 31 := Nat.lt_of_lt_of_le h2 (Nat.pow_le_pow_right (by omega) (by omega))
      have ⟨n1, n2⟩ := next_spec (X := X) (Y := Y) hN hk
      have ⟨⟨p, p1, p2, p3, p4, p5⟩, p6⟩ := CK_spec (X := X) (Y := Y) hN hk
      have hv0 : 1 ≤ VX X Y N s := by
        cases q : VX X Y N s with
        | zero => rw [q, h1] at p4; cases p4
        | succ r => omega
      have gr := grow2 (F := F) (L := LL X Y N (GG X Y N s)) (links := t.2) hF hN (by omega) hG31 (fun i g1 g2 g3 => ⟨hI2.2 i g1 g2 g3, LL_lt hN hI g2 h1⟩)
      rw [n1] at gr
      have lk := hI2.2 _ hv0 p2 p4
      rw [n2] at lk
      have kb : CK X Y N s < 2144000000 := by rw [p5]; exact kf_lt hN hI p1 p2
      obtain ⟨keys', pk, pg⟩ := putKey2 (F := F) (n := s) (v := CK X Y N s) (K := KS X Y N s) (keys := t.1) hF (by omega) kb (fun j hj => isK_lt hN hI (KS_isK hN s (by omega) j hj)) hI2.1
      obtain ⟨links', lb, lg⟩ := grow2_b82 (F := F) (v := VX X Y N s) (links := t.2) hF hN (by omega) hP hI h2 p2 h1 hI2.2
      have sb := setbit (m := GG X Y N s) (k := VX X Y N s) hG31 (by omega)
      have nm : (oI (some (VX X Y N s)) = -1) = False := nI_m1 (by omega)
      refine ⟨(keys', links'), ?_, pg, lg⟩
      simp only [oI] at gr nm
      simp (disch := omega) [mX2_growTree_b40, Option.bind_some, nI_leE, nI_ltE, nI_eqE, nI_1, nI_add, rdI_n, rdL_n, wrI_n, wrL_n, has6b, bI_0, bI_1, nI_m1, nI_lt0, nI_le0, nI_0le, nI_eq0, leF, leT, ltF, ltT, eqF, gr, lk, pk, sb, lb]
      rfl
    · simp (disch := omega) [mX2_growTree_b40, Option.bind_some, nI_leE, nI_ltE, nI_eqE, nI_1, nI_add, rdI_n, rdL_n, wrI_n, wrL_n, has6b, bI_0, bI_1, nI_m1, nI_lt0, nI_le0, nI_0le, nI_eq0, leF, leT, ltF, ltT, eqF]
/-- the part of a point by the first joins -/
def smB (P Q : Nat → Nat) : Nat → Nat → Nat
  | 0, p => 2 ^ p
  | j + 1, p => if (smB P Q j (P j) ||| smB P Q j (Q j)).testBit p = true then smB P Q j (P j) ||| smB P Q j (Q j) else smB P Q j p
def pmB (P Q : Nat → Nat) (j : Nat) : Nat := smB P Q j (P j) ||| smB P Q j (Q j)
def ndB (P Q : Nat → Nat) : Nat → Nat → Nat
  | 0, p => p
  | j + 1, p => if (pmB P Q j).testBit p = true then 100 + j else ndB P Q j p
/-- the joins above joins, and above points, after the first k joins -/
def jaB (P Q : Nat → Nat) : Nat → Nat → Option Nat
  | 0, _ => none
  | k + 1, i => if ndB P Q k (P k) = 100 + i ∨ ndB P Q k (Q k) = 100 + i then some k else if i = k then none else jaB P Q k i
def paB (P Q : Nat → Nat) : Nat → Nat → Option Nat
  | 0, _ => none
  | k + 1, i => if ndB P Q k (P k) = i ∨ ndB P Q k (Q k) = i then some k else paB P Q k i
theorem nd_or {P Q : Nat → Nat} : ∀ j p, ndB P Q j p = p ∧ smB P Q j p = 2 ^ p ∨ ∃ i, i < j ∧ ndB P Q j p = 100 + i ∧ smB P Q j p = pmB P Q i
  | 0, p => Or.inl ⟨rfl, rfl⟩
  | j + 1, p => by
    by_cases h : (pmB P Q j).testBit p = true
    · exact Or.inr ⟨j, by omega, if_pos h, if_pos h⟩
    · have e1 : ndB P Q (j + 1) p = ndB P Q j p := if_neg h
      have e2 : smB P Q (j + 1) p = smB P Q j p := if_neg h
      rcases nd_or (P := P) (Q := Q) j p with ⟨a, b⟩ | ⟨i, a, b, c⟩
      · exact Or.inl ⟨by rw [e1, a], by rw [e2, b]⟩
      · exact Or.inr ⟨i, by omega, by rw [e1, b], by rw [e2, c]⟩
theorem sm_lt {P Q : Nat → Nat} {N : Nat} : ∀ j, (∀ i, i < j → P i < N ∧ Q i < N) → ∀ p, p < N → smB P Q j p < 2 ^ N
  | 0, _, p, hp => Nat.pow_lt_pow_right (by omega) hp
  | j + 1, h, p, hp => by
    have ih := sm_lt (P := P) (Q := Q) (N := N) j (fun i hi => h i (by omega))
    have ⟨a, b⟩ := h j (by omega)
    simp only [smB]
    split
    · exact Nat.or_lt_two_pow (ih _ a) (ih _ b)
    · exact ih p hp
theorem pm_lt {P Q : Nat → Nat} {N j : Nat} (h : ∀ i, i < j + 1 → P i < N ∧ Q i < N) : pmB P Q j < 2 ^ N := by
  have ⟨a, b⟩ := h j (by omega)
  have ih := sm_lt (P := P) (Q := Q) (N := N) j (fun i hi => h i (by omega))
  exact Nat.or_lt_two_pow (ih _ a) (ih _ b)
theorem lt31 {a N : Nat} (h : a < 2 ^ N) (hN : N ≤ 24) : a < 2 ^ 31 := Nat.lt_of_lt_of_le h (Nat.pow_le_pow_right (by omega) (by omega))
/-- first and second points of the joins, by keys -/
def fP (K : Nat → Nat) : Nat → Nat := fun j => K j / 32 % 32
def fQ (K : Nat → Nat) : Nat → Nat := fun j => K j % 32
def plB (X Y : Nat → Nat) (p : Nat) : Nat := X p * 1024 + Y p
theorem setOf2 {F N j p : Nat} {P Q : Nat → Nat} {parts : Nat → Int32} (hN : N ≤ 24) (hj : j ≤ 24) (hp : p < N) (hpar : ∀ i, i < j → parts i = nI (pmB P Q i)) :
    mX2_setOf F (nI (ndB P Q j p)) parts = some (nI (smB P Q j p)) := by
  unfold mX2_setOf mX2_joinOf
  rcases nd_or (P := P) (Q := Q) j p with ⟨a, b⟩ | ⟨i, a, b, c⟩
  · rw [a, b]
    have e : (1 : Int32) <<< (nI p &&& 31) = nI (2 ^ p) := nI_bit (by omega)
    simp (disch := omega) [c100, Option.bind_some, nI_leE, nI_ltE, nI_eqE, nI_1, nI_add, rdI_n, rdL_n, wrI_n, wrL_n, has6b, bI_0, bI_1, nI_m1, nI_lt0, nI_le0, nI_0le, nI_eq0, leF, leT, ltF, ltT, eqF, e]
  · rw [b, c]
    have e : nI (100 + i) - 100 = nI i := by rw [c100, pk_sub (by omega)]; congr 1; omega
    have e2 := hpar i a
    have m1 : (nI i = -1) = False := nI_m1 (by omega)
    have q1 : ¬ (nI (100 + i) < (100 : Int32)) := by rw [c100, nI_ltE (by omega) (by omega)]; omega
    have q2 : ¬ ((124 : Int32) ≤ nI (100 + i)) := by rw [c124, nI_leE (by omega) (by omega)]; omega
    rw [if_neg q1, if_neg q2, e]
    simp (disch := omega) [Option.bind_some, nI_leE, nI_ltE, nI_eqE, nI_1, nI_add, rdI_n, rdL_n, wrI_n, wrL_n, has6b, bI_0, bI_1, nI_m1, nI_lt0, nI_le0, nI_0le, nI_eq0, leF, leT, ltF, ltT, eqF, e2]
/-- the rows of joins above: after a node was put below the join k -/
def abJ (k : Nat) (f : Nat → Int32) (n : Nat) : Nat → Int32 := fun i => if n = 100 + i then nI k else f i
def abP (k : Nat) (f : Nat → Int32) (n : Nat) : Nat → Int32 := fun i => if n = i then nI k else f i
theorem putBelow2 {F n k : Nat} (hn : n < 24 ∨ 100 ≤ n ∧ n < 124) (ja pa : Nat → Int32) :
    ∃ ja' pa', mX2_putBelow F (nI n) (nI k) ja pa = some (ja', pa') ∧ (∀ i, ja' i = abJ k ja n i) ∧ (∀ i, i < 24 → pa' i = abP k pa n i) := by
  unfold mX2_putBelow mX2_joinOf abJ abP
  rcases hn with hn | ⟨h1, h2⟩
  · refine ⟨ja, upd pa n (nI k), ?_, fun i => by rw [if_neg (by omega)], fun i hi => ?_⟩
    · simp (disch := omega) [c100, c24, Option.bind_some, nI_leE, nI_ltE, nI_eqE, nI_1, nI_add, rdI_n, rdL_n, wrI_n, wrL_n, has6b, bI_0, bI_1, nI_m1, nI_lt0, nI_le0, nI_0le, nI_eq0, leF, leT, ltF, ltT, eqF]
    · by_cases e : n = i
      · subst e; rw [pk_us, if_pos rfl]
      · rw [pk_un (Ne.symm e), if_neg e]
  · have e : nI n - 100 = nI (n - 100) := by rw [c100, pk_sub h1]
    have q1 : ¬ (nI n < (100 : Int32)) := by rw [c100, nI_ltE (by omega) (by omega)]; omega
    have q2 : ¬ ((124 : Int32) ≤ nI n) := by rw [c124, nI_leE (by omega) (by omega)]; omega
    refine ⟨upd ja (n - 100) (nI k), pa, ?_, fun i => ?_, fun i hi => by rw [if_neg (by omega)]⟩
    · rw [if_neg q1, if_neg q2, e]
      simp (disch := omega) [Option.bind_some, nI_leE, nI_ltE, nI_eqE, nI_1, nI_add, rdI_n, rdL_n, wrI_n, wrL_n, has6b, bI_0, bI_1, nI_m1, nI_lt0, nI_le0, nI_0le, nI_eq0, leF, leT, ltF, ltT, eqF]
    · by_cases e : n = 100 + i
      · rw [if_pos e, show n - 100 = i by omega, pk_us]
      · rw [if_neg e, pk_un (by omega)]
theorem nd_rng {P Q : Nat → Nat} {j p : Nat} (hp : p < 24) (hj : j ≤ 24) : ndB P Q j p < 24 ∨ 100 ≤ ndB P Q j p ∧ ndB P Q j p < 124 := by
  rcases nd_or (P := P) (Q := Q) j p with ⟨a, b⟩ | ⟨i, a, b, c⟩ <;> omega
