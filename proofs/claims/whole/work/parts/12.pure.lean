/-! ===== PURE 3: whole-number functions; loops that count ===== -/
def bI (b : Bool) : Int32 := if b = true then 1 else 0
theorem bI_0 (b : Bool) : (bI b = 0) = (b = false) := by cases b <;> simp [bI]
theorem bI_1 (b : Bool) : (bI b = 1) = (b = true) := by cases b <;> simp [bI]
def oI : Option Nat → Int32
  | none => -1
  | some k => nI k
theorem m1_toInt : (-1 : Int32).toInt = -1 := by decide +kernel
theorem nI_m1 {a : Nat} (ha : a < 2 ^ 31) : (nI a = -1) = False := by
  refine eq_false (fun h => ?_)
  have e := nI_toInt ha
  rw [h, m1_toInt] at e
  omega
theorem oI_m1 {o : Option Nat} (h : ∀ k, o = some k → k < 2 ^ 31) : (oI o = -1) = (o = none) := by
  cases o with
  | none => simp [oI]
  | some k => simp only [oI]; rw [nI_m1 (h k rfl)]; simp
theorem oI_inj {o u : Option Nat} (h : ∀ k, o = some k → k < 2 ^ 31) (h2 : ∀ k, u = some k → k < 2 ^ 31) : (oI o = oI u) = (o = u) := by
  cases o with
  | none => cases u with
    | none => simp
    | some k =>
      have e := nI_m1 (h2 k rfl)
      simp only [oI]
      rw [show ((-1 : Int32) = nI k) = (nI k = -1) from propext ⟨Eq.symm, Eq.symm⟩, e]; simp
  | some j => cases u with
    | none => simp only [oI]; rw [nI_m1 (h j rfl)]; simp
    | some k => simp only [oI]; rw [nI_eq (h j rfl) (h2 k rfl)]; simp
theorem has6b {m k : Nat} (F : Nat) (hm : m < 2 ^ 31) (hk : k < 31) : mX6_has F (nI m) (nI k) = some (bI (m.testBit k)) := has6 F hm hk
theorem has9b {m k : Nat} (F : Nat) (hm : m < 2 ^ 31) (hk : k < 31) : mX9_has F (nI m) (nI k) = some (bI (m.testBit k)) := has9 F hm hk
theorem c0 : (0 : Int32) = nI 0 := rfl
theorem c1 : (1 : Int32) = nI 1 := rfl
theorem c2 : (2 : Int32) = nI 2 := rfl
theorem c3 : (3 : Int32) = nI 3 := rfl
theorem c4 : (4 : Int32) = nI 4 := rfl
theorem c5 : (5 : Int32) = nI 5 := rfl
theorem c9 : (9 : Int32) = nI 9 := rfl
theorem c10 : (10 : Int32) = nI 10 := rfl
theorem c24 : (24 : Int32) = nI 24 := rfl
theorem c99 : (99 : Int32) = nI 99 := rfl
theorem c100 : (100 : Int32) = nI 100 := rfl
theorem c124 : (124 : Int32) = nI 124 := rfl
theorem c999 : (999 : Int32) = nI 999 := rfl
theorem c1024 : (1024 : Int32) = nI 1024 := rfl
theorem nI_leE {a b : Nat} (ha : a < 2 ^ 31) (hb : b < 2 ^ 31) : (nI a ≤ nI b) = (a ≤ b) := propext (nI_leI ha hb)
theorem nI_ltE {a b : Nat} (ha : a < 2 ^ 31) (hb : b < 2 ^ 31) : (nI a < nI b) = (a < b) := propext (nI_ltI ha hb)
theorem nI_eqE {a b : Nat} (ha : a < 2 ^ 31) (hb : b < 2 ^ 31) : (nI a = nI b) = (a = b) := propext (nI_eq ha hb)
theorem nI_s1 {a : Nat} (h : 1 ≤ a) : nI a - 1 = nI (a - 1) := pk_sub (b := 1) h
theorem nI_a1 {a : Nat} (h : 1 ≤ a) : nI a + (-1) = nI (a - 1) := by
  have := pk_m1 (a - 1)
  rw [show a - 1 + 1 = a by omega] at this
  exact this
theorem nI_lt0 {a : Nat} (ha : a < 2 ^ 31) : (nI a < 0) = False := by rw [c0, nI_ltE ha (by omega)]; simp
theorem nI_le0 {a : Nat} (ha : a < 2 ^ 31) : (nI a ≤ 0) = (a = 0) := by rw [c0, nI_leE ha (by omega)]; simp
theorem nI_0le {a : Nat} (ha : a < 2 ^ 31) : (0 ≤ nI a) = True := by rw [c0, nI_leE (by omega) ha]; simp
theorem nI_eq0 {a : Nat} (ha : a < 2 ^ 31) : (nI a = 0) = (a = 0) := by rw [c0, nI_eqE ha (by omega)]
theorem m1_lt0 : ((-1 : Int32) < 0) = True := by decide +kernel
/-- counts -/
def cntB (p : Nat → Bool) : Nat → Nat
  | 0 => 0
  | n + 1 => cntB p n + (if p n = true then 1 else 0)
def sumB (f : Nat → Nat) : Nat → Nat
  | 0 => 0
  | n + 1 => sumB f n + f n
def fstB (p : Nat → Bool) : Nat → Option Nat
  | 0 => none
  | n + 1 => match fstB p n with
    | some k => some k
    | none => if p n = true then some n else none
def lstB (p : Nat → Bool) : Nat → Option Nat
  | 0 => none
  | n + 1 => if p n = true then some n else lstB p n
def mkB (p : Nat → Bool) : Nat → Nat
  | 0 => 0
  | n + 1 => if p n = true then mkB p n ||| 2 ^ n else mkB p n
def bstB (p : Nat → Bool) (lt : Nat → Nat → Bool) : Nat → Option Nat
  | 0 => none
  | n + 1 => if p n = true then (match bstB p lt n with
    | none => some n
    | some b => if lt n b = true then some n else some b) else bstB p lt n
theorem cntB_le (p : Nat → Bool) : ∀ n, cntB p n ≤ n
  | 0 => Nat.le_refl _
  | n + 1 => by have := cntB_le p n; simp only [cntB]; split <;> omega
theorem cntB_congr {p q : Nat → Bool} : ∀ {n}, (∀ k, k < n → p k = q k) → cntB p n = cntB q n
  | 0, _ => rfl
  | n + 1, h => by simp only [cntB]; rw [cntB_congr (fun k hk => h k (by omega)), h n (by omega)]
theorem sumB_congr {f g : Nat → Nat} : ∀ {n}, (∀ k, k < n → f k = g k) → sumB f n = sumB g n
  | 0, _ => rfl
  | n + 1, h => by simp only [sumB]; rw [sumB_congr (fun k hk => h k (by omega)), h n (by omega)]
theorem sumB_le {f : Nat → Nat} {c : Nat} : ∀ {n}, (∀ k, k < n → f k ≤ c) → sumB f n ≤ n * c
  | 0, _ => Nat.zero_le _
  | n + 1, h => by
    have h1 := sumB_le (n := n) (fun k hk => h k (by omega))
    have h2 := h n (by omega)
    simp only [sumB]
    rw [Nat.succ_mul]
    omega
theorem cntB_sum (p : Nat → Bool) : ∀ n, cntB p n = sumB (fun k => if p k = true then 1 else 0) n
  | 0 => rfl
  | n + 1 => by simp only [cntB, sumB]; rw [cntB_sum p n]
theorem fstB_congr {p q : Nat → Bool} : ∀ {n}, (∀ k, k < n → p k = q k) → fstB p n = fstB q n
  | 0, _ => rfl
  | n + 1, h => by simp only [fstB]; rw [fstB_congr (fun k hk => h k (by omega)), h n (by omega)]
theorem lstB_congr {p q : Nat → Bool} : ∀ {n}, (∀ k, k < n → p k = q k) → lstB p n = lstB q n
  | 0, _ => rfl
  | n + 1, h => by simp only [lstB]; rw [lstB_congr (fun k hk => h k (by omega)), h n (by omega)]
theorem mkB_congr {p q : Nat → Bool} : ∀ {n}, (∀ k, k < n → p k = q k) → mkB p n = mkB q n
  | 0, _ => rfl
  | n + 1, h => by simp only [mkB]; rw [mkB_congr (fun k hk => h k (by omega)), h n (by omega)]
theorem fstB_none {p : Nat → Bool} : ∀ {n}, fstB p n = none ↔ ∀ k, k < n → p k = false
  | 0 => ⟨fun _ k h => by omega, fun _ => rfl⟩
  | n + 1 => by
    simp only [fstB]
    cases h : fstB p n with
    | some k =>
      have : ¬ ∀ k, k < n → p k = false := fun g => by rw [fstB_none.mpr g] at h; cases h
      refine ⟨fun g => (by cases g), fun g => absurd (fun k hk => g k (by omega)) this⟩
    | none =>
      have h2 := fstB_none.mp h
      cases hp : p n with
      | true => refine ⟨fun g => (by simp at g), fun g => (by rw [g n (by omega)] at hp; cases hp)⟩
      | false =>
        refine ⟨fun _ k hk => ?_, fun _ => by simp⟩
        rcases Nat.lt_succ_iff_lt_or_eq.mp hk with e | e
        · exact h2 k e
        · subst e; exact hp
theorem fstB_some {p : Nat → Bool} {k : Nat} : ∀ {n}, fstB p n = some k ↔ (k < n ∧ p k = true ∧ ∀ i, i < k → p i = false)
  | 0 => ⟨fun h => (by cases h), fun h => by omega⟩
  | n + 1 => by
    simp only [fstB]
    cases h : fstB p n with
    | some j =>
      have hj := fstB_some.mp h
      refine ⟨fun g => ?_, fun ⟨g1, g2, g3⟩ => ?_⟩
      · cases g; exact ⟨by omega, hj.2.1, hj.2.2⟩
      · have e : j = k := by
          rcases Nat.lt_trichotomy j k with e | e | e
          · have := g3 j e; rw [hj.2.1] at this; cases this
          · exact e
          · have := hj.2.2 k e; rw [g2] at this; cases this
        rw [e]
    | none =>
      have h2 := fstB_none.mp h
      cases hp : p n with
      | true =>
        simp only [if_true]
        refine ⟨fun g => ?_, fun ⟨g1, g2, g3⟩ => ?_⟩
        · cases g; exact ⟨by omega, hp, h2⟩
        · rcases Nat.lt_succ_iff_lt_or_eq.mp g1 with e | e
          · rw [h2 k e] at g2; cases g2
          · rw [e]
      | false =>
        refine ⟨fun g => (by simp at g), fun ⟨g1, g2, g3⟩ => ?_⟩
        rcases Nat.lt_succ_iff_lt_or_eq.mp g1 with e | e
        · rw [h2 k e] at g2; cases g2
        · subst e; rw [hp] at g2; cases g2
theorem lstB_none {p : Nat → Bool} : ∀ {n}, lstB p n = none ↔ ∀ k, k < n → p k = false
  | 0 => ⟨fun _ k h => by omega, fun _ => rfl⟩
  | n + 1 => by
    simp only [lstB]
    cases hp : p n with
    | true => refine ⟨fun g => (by simp at g), fun g => (by rw [g n (by omega)] at hp; cases hp)⟩
    | false =>
      simp only [if_neg (show ¬ (false = true) by decide)]
      refine lstB_none.trans ⟨fun g k hk => ?_, fun g k hk => g k (by omega)⟩
      rcases Nat.lt_succ_iff_lt_or_eq.mp hk with e | e
      · exact g k e
      · subst e; exact hp
theorem lstB_some {p : Nat → Bool} {k : Nat} : ∀ {n}, lstB p n = some k ↔ (k < n ∧ p k = true ∧ ∀ i, k < i → i < n → p i = false)
  | 0 => ⟨fun h => (by cases h), fun h => by omega⟩
  | n + 1 => by
    simp only [lstB]
    cases hp : p n with
    | true =>
      simp only [if_true]
      refine ⟨fun g => ?_, fun ⟨g1, g2, g3⟩ => ?_⟩
      · cases g; exact ⟨by omega, hp, fun i h1 h2 => by omega⟩
      · rcases Nat.lt_succ_iff_lt_or_eq.mp g1 with e | e
        · have := g3 n e (by omega); rw [hp] at this; cases this
        · rw [e]
    | false =>
      simp only [if_neg (show ¬ (false = true) by decide)]
      refine lstB_some.trans ⟨fun ⟨g1, g2, g3⟩ => ⟨by omega, g2, fun i h1 h2 => ?_⟩, fun ⟨g1, g2, g3⟩ => ⟨?_, g2, fun i h1 h2 => g3 i h1 (by omega)⟩⟩
      · rcases Nat.lt_succ_iff_lt_or_eq.mp h2 with e | e
        · exact g3 i h1 e
        · subst e; exact hp
      · rcases Nat.lt_succ_iff_lt_or_eq.mp g1 with e | e
        · exact e
        · subst e; rw [hp] at g2; cases g2
theorem fstB_lt {p : Nat → Bool} {n k : Nat} (h : fstB p n = some k) : k < n := (fstB_some.mp h).1
theorem mkB_bit (p : Nat → Bool) : ∀ n i, (mkB p n).testBit i = (decide (i < n) && p i)
  | 0, i => by simp [mkB]
  | n + 1, i => by
    simp only [mkB]
    have ih := mkB_bit p n i
    by_cases e : i = n
    · subst e
      cases hp : p i with
      | true => simp [Nat.testBit_two_pow]
      | false => simp [ih, hp]
    · have e2 : decide (i < n + 1) = decide (i < n) := by simp; omega
      rw [e2]
      split
      · rw [Nat.testBit_or, ih, Nat.testBit_two_pow]; simp [Ne.symm e]
      · exact ih
theorem mkB_lt (p : Nat → Bool) : ∀ n, mkB p n < 2 ^ n
  | 0 => by simp [mkB]
  | n + 1 => by
    have ih := mkB_lt p n
    simp only [mkB]
    have : 2 ^ (n + 1) = 2 * 2 ^ n := by rw [Nat.pow_succ]; omega
    split
    · refine Nat.or_lt_two_pow ?_ ?_ <;> omega
    · omega
theorem mask_ext {a b : Nat} (h : ∀ i, a.testBit i = b.testBit i) : a = b := Nat.eq_of_testBit_eq h
theorem bit_lt {m n i : Nat} (hm : m < 2 ^ n) (h : m.testBit i = true) : i < n := by
  refine Nat.lt_of_not_le (fun g => ?_)
  have : m < 2 ^ i := Nat.lt_of_lt_of_le hm (Nat.pow_le_pow_right (by omega) g)
  rw [Nat.testBit_lt_two_pow this] at h
  cases h
/-- loops that count up from a to n -/
theorem lp {σ ρ : Type} {body : σ → Option (σ ⊕ ρ)} {F : Nat} {s0 : σ} (St : Nat → σ) (a n : Nat) (r : ρ) (han : a ≤ n) (hs : s0 = St a)
    (hb : ∀ k, a ≤ k → k < n → body (St k) = some (.inl (St (k + 1)))) (he : body (St n) = some (.inr r)) (hF : n < F) : loop body F s0 = some r := by
  subst hs
  have key : ∀ m k, a ≤ k → k + m = n → ∀ F, m < F → loop body F (St k) = some r := by
    intro m
    induction m with
    | zero => intro k h1 h2 F hF; rw [show F = (F - 1) + 1 by omega, show k = n by omega, loop_out he]
    | succ m ih => intro k h1 h2 F hF; rw [show F = (F - 1) + 1 by omega, loop_succ (hb k h1 (by omega)), ih (k + 1) (by omega) (by omega) (F - 1) (by omega)]
  exact key (n - a) a (Nat.le_refl _) (by omega) F (by omega)
theorem lpI {σ ρ α : Type} {body : σ → Option (σ ⊕ ρ)} {F : Nat} {s0 : σ} (St : Nat → α → σ) (I : Nat → α → Prop) (a n : Nat) (out : α → ρ) (x0 : α) (han : a ≤ n) (hs : s0 = St a x0)
    (h0 : I a x0) (hb : ∀ k x, a ≤ k → k < n → I k x → ∃ y, body (St k x) = some (.inl (St (k + 1) y)) ∧ I (k + 1) y)
    (he : ∀ x, I n x → body (St n x) = some (.inr (out x))) (hF : n < F) : ∃ x, loop body F s0 = some (out x) ∧ I n x := by
  subst hs
  have key : ∀ m k, a ≤ k → k + m = n → ∀ F, m < F → ∀ x, I k x → ∃ y, loop body F (St k x) = some (out y) ∧ I n y := by
    intro m
    induction m with
    | zero =>
      intro k h1 h2 F hF x hx
      have e : k = n := by omega
      subst e
      exact ⟨x, by rw [show F = (F - 1) + 1 by omega, loop_out (he x hx)], hx⟩
    | succ m ih =>
      intro k h1 h2 F hF x hx
      obtain ⟨y, e, hy⟩ := hb k x h1 (by omega) hx
      obtain ⟨z, e2, hz⟩ := ih (k + 1) (by omega) (by omega) (F - 1) (by omega) y hy
      exact ⟨z, by rw [show F = (F - 1) + 1 by omega, loop_succ e, e2], hz⟩
  exact key (n - a) a (Nat.le_refl _) (by omega) F (by omega) x0 h0
/-- loops that seek upwards -/
theorem lpS {σ ρ : Type} {body : σ → Option (σ ⊕ ρ)} {F : Nat} {s0 : σ} (St : Nat → σ) (p : Nat → Bool) (n : Nat) (out : Nat → ρ) (d : ρ) (hs : s0 = St 0)
    (hb : ∀ k, k < n → (∀ i, i < k → p i = false) → body (St k) = if p k = true then some (.inr (out k)) else some (.inl (St (k + 1))))
    (he : (∀ i, i < n → p i = false) → body (St n) = some (.inr d)) (hF : n < F) :
    loop body F s0 = some (match fstB p n with | some k => out k | none => d) := by
  subst hs
  have key : ∀ m k, k + m = n → (∀ i, i < k → p i = false) → ∀ F, m < F → loop body F (St k) = some (match fstB p n with | some k => out k | none => d) := by
    intro m
    induction m with
    | zero =>
      intro k h1 h2 F hF
      have e : k = n := by omega
      subst e
      rw [show F = (F - 1) + 1 by omega, loop_out (he h2), fstB_none.mpr h2]
    | succ m ih =>
      intro k h1 h2 F hF
      have e := hb k (by omega) h2
      rw [show F = (F - 1) + 1 by omega]
      cases hp : p k with
      | true => rw [if_pos hp] at e; rw [loop_out e, fstB_some.mpr ⟨by omega, hp, h2⟩]
      | false =>
        rw [if_neg (by rw [hp]; decide)] at e
        rw [loop_succ e]
        refine ih (k + 1) (by omega) (fun i hi => ?_) (F - 1) (by omega)
        rcases Nat.lt_succ_iff_lt_or_eq.mp hi with g | g
        · exact h2 i g
        · subst g; exact hp
  exact key n 0 (by omega) (fun i hi => by omega) F hF
/-- loops that seek downwards: the state of index k is St (k + 1) -/
theorem lpD {σ ρ : Type} {body : σ → Option (σ ⊕ ρ)} {s0 : σ} (St : Nat → σ) (p : Nat → Bool) (out : Nat → ρ) (d : ρ) : ∀ (n : Nat) {F : Nat} (_ : s0 = St n)
    (_ : ∀ k, k < n → (∀ i, k < i → i < n → p i = false) → body (St (k + 1)) = if p k = true then some (.inr (out k)) else some (.inl (St k)))
    (_ : (∀ i, i < n → p i = false) → body (St 0) = some (.inr d)) (_ : n < F), loop body F s0 = some (match lstB p n with | some k => out k | none => d) := by
  intro n F hs hb he hF
  subst hs
  have key : ∀ m, m ≤ n → (∀ i, m ≤ i → i < n → p i = false) → ∀ F, m < F → loop body F (St m) = some (match lstB p n with | some k => out k | none => d) := by
    intro m
    induction m with
    | zero =>
      intro h1 h2 F hF
      rw [show F = (F - 1) + 1 by omega, loop_out (he (fun i hi => h2 i (by omega) hi)), lstB_none.mpr (fun i hi => h2 i (by omega) hi)]
    | succ m ih =>
      intro h1 h2 F hF
      have e := hb m (by omega) (fun i g1 g2 => h2 i (by omega) g2)
      rw [show F = (F - 1) + 1 by omega]
      cases hp : p m with
      | true => rw [if_pos hp] at e; rw [loop_out e, lstB_some.mpr ⟨by omega, hp, fun i g1 g2 => h2 i (by omega) g2⟩]
      | false =>
        rw [if_neg (by rw [hp]; decide)] at e
        rw [loop_succ e]
        refine ih (by omega) (fun i g1 g2 => ?_) (F - 1) (by omega)
        rcases Nat.eq_or_lt_of_le g1 with g | g
        · subst g; exact hp
        · exact h2 i (by omega) g2
  exact key n (Nat.le_refl _) (fun i g1 g2 => by omega) F hF
def dn : Nat → Int32
  | 0 => -1
  | k + 1 => nI k
theorem dn_lt0 {k : Nat} (h : k < 2 ^ 31) : (dn k < 0) = (k = 0) := by
  cases k with
  | zero => simp [dn, m1_lt0]
  | succ k => simp only [dn]; rw [nI_lt0 (by omega)]; simp
theorem dn_pred {k : Nat} : nI k + (-1) = dn k := by
  cases k with
  | zero => rfl
  | succ k => exact pk_m1 k
theorem leF {a b : Nat} (h : b < a) : (a ≤ b) = False := eq_false (by omega)
theorem leT {a b : Nat} (h : a ≤ b) : (a ≤ b) = True := eq_true h
theorem ltF {a b : Nat} (h : b ≤ a) : (a < b) = False := eq_false (by omega)
theorem ltT {a b : Nat} (h : a < b) : (a < b) = True := eq_true h
theorem eqF {a b : Nat} (h : a < b ∨ b < a) : (a = b) = False := eq_false (by omega)
theorem oI_def (o : Option Nat) : (match o with | some k => nI k | none => (-1 : Int32)) = oI o := by cases o <;> rfl
