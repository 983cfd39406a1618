/-! ===== PURE 9: the reference grows the tree ===== -/
theorem joins9 {F N : Nat} (hN : N ≤ 24) : mX9_joins F (nI N) = some (nI (N - 1)) := by
  unfold mX9_joins
  by_cases h : N = 0
  · subst h
    rw [if_pos (by decide +kernel)]; rfl
  · rw [if_neg (by rw [nI_le0 (by omega)]; exact h), nI_s1 (by omega)]
theorem wasJoins9 {F N : Nat} (hN : N ≤ 24) : mX9_wasJoins F (nI N) = some (nI (N - 1)) := joins9 (F := F) hN
def cand (N G p q : Nat) : Prop := p < N ∧ q < N ∧ G.testBit p = true ∧ G.testBit q = false
/-- the best pair of those that were looked at -/
def bestP (X Y : Nat → Nat) (N G : Nat) (seen : Nat → Nat → Prop) (x : Int32 × Int32) : Prop :=
  (x.1 = -1 ∧ x.2 = -1 ∧ ∀ p q, cand N G p q → ¬ seen p q) ∨ ∃ a b, x.1 = nI a ∧ x.2 = nI b ∧ cand N G a b ∧ ∀ p q, cand N G p q → seen p q → kf X Y a b ≤ kf X Y p q
theorem bestP_mono {X Y : Nat → Nat} {N G : Nat} {s1 s2 : Nat → Nat → Prop} {x : Int32 × Int32} (h : bestP X Y N G s1 x) (h2 : ∀ p q, cand N G p q → s2 p q → s1 p q) : bestP X Y N G s2 x := by
  rcases h with ⟨a, b, c⟩ | ⟨a, b, c, d, e, f⟩
  · exact Or.inl ⟨a, b, fun p q hc hs => c p q hc (h2 p q hc hs)⟩
  · exact Or.inr ⟨a, b, c, d, e, fun p q hc hs => f p q hc (h2 p q hc hs)⟩
theorem lays_b32 {F N G p : Nat} {X Y : Nat → Nat} {xs ys : Nat → Int32} (hF : 1000 ≤ F) (hN : N ≤ 24) (hP : PT N X Y xs ys) (hI : IN N X Y) (hG : G < 2 ^ 31) (hp : p < N) (x : Int32 × Int32)
    (hx : bestP X Y N G (fun r _ => r < p) x) : ∃ y, loop (fun s32 : Int32 × Int32 × Int32 => mX9_laysTree_b32 F (nI N) xs ys (nI G) (nI p) s32.1 s32.2.1 s32.2.2) F (x.1, x.2, (0 : Int32)) = some y ∧ bestP X Y N G (fun r _ => r < p + 1) y := by
  refine Exists.elim (lpI (body := fun s32 : Int32 × Int32 × Int32 => mX9_laysTree_b32 F (nI N) xs ys (nI G) (nI p) s32.1 s32.2.1 s32.2.2) (F := F)
    (fun k (x : Int32 × Int32) => (x.1, x.2, nI k)) (fun k x => bestP X Y N G (fun r s => r < p ∨ r = p ∧ s < k) x) 0 N (fun x => x) x (by omega) (s0 := (x.1, x.2, (0 : Int32))) rfl
    (bestP_mono hx (fun r s _ h => by omega)) (fun k x _ hk hB => ?_) (fun x hB => ?_) (by omega)) ?_
  rotate_right 1
  · intro y hh_; obtain ⟨e, g⟩ := hh_
    exact ⟨y, e, bestP_mono g (fun r s hc h => by have := hc.2.1; omega)⟩
  · cases hb : G.testBit p with
    | false =>
      refine ⟨x, by simp (disch := omega) [mX9_laysTree_b32, Option.bind_some, nI_leE, nI_ltE, nI_eqE, nI_1, nI_add, rdI_n, rdL_n, wrI_n, wrL_n, has6b, has9b, bI_0, bI_1, nI_m1, nI_lt0, nI_le0, nI_0le, nI_eq0, leF, leT, ltF, ltT, eqF, hb], bestP_mono hB (fun r s hc h => ?_)⟩
      have : r ≠ p := fun e => by rw [e] at hc; have := hc.2.2.1; rw [hb] at this; cases this
      omega
    | true =>
      cases hb2 : G.testBit k with
      | true =>
        refine ⟨x, by simp (disch := omega) [mX9_laysTree_b32, Option.bind_some, nI_leE, nI_ltE, nI_eqE, nI_1, nI_add, rdI_n, rdL_n, wrI_n, wrL_n, has6b, has9b, bI_0, bI_1, nI_m1, nI_lt0, nI_le0, nI_0le, nI_eq0, leF, leT, ltF, ltT, eqF, hb, hb2], bestP_mono hB (fun r s hc h => ?_)⟩
        have : s ≠ k := fun e => by rw [e] at hc; have := hc.2.2.2; rw [hb2] at this; cases this
        omega
      | false =>
        rcases hB with ⟨a1, a2, a3⟩ | ⟨a, b, a1, a2, a3, a4⟩
        · refine ⟨(nI p, nI k), by simp (disch := omega) [mX9_laysTree_b32, Option.bind_some, nI_leE, nI_ltE, nI_eqE, nI_1, nI_add, rdI_n, rdL_n, wrI_n, wrL_n, has6b, has9b, bI_0, bI_1, nI_m1, nI_lt0, nI_le0, nI_0le, nI_eq0, leF, leT, ltF, ltT, eqF, hb, hb2, a1], Or.inr ⟨p, k, rfl, rfl, ⟨hp, hk, hb, hb2⟩, fun r s hc h => ?_⟩⟩
          have := a3 r s hc
          have e1 : r = p := by omega
          have e2 : s = k := by omega
          rw [e1, e2]
          exact Nat.le_refl _
        · have so := sooner9 (F := F) hN hP hI hp hk a3.1 a3.2.1
          have am : (nI a = -1) = False := nI_m1 (by have := a3.1; omega)
          by_cases g : kf X Y p k < kf X Y a b
          · refine ⟨(nI p, nI k), by simp (disch := omega) [mX9_laysTree_b32, Option.bind_some, nI_leE, nI_ltE, nI_eqE, nI_1, nI_add, rdI_n, rdL_n, wrI_n, wrL_n, has6b, has9b, bI_0, bI_1, nI_m1, nI_lt0, nI_le0, nI_0le, nI_eq0, leF, leT, ltF, ltT, eqF, hb, hb2, a1, a2, am, so, g], Or.inr ⟨p, k, rfl, rfl, ⟨hp, hk, hb, hb2⟩, fun r s hc h => ?_⟩⟩
            by_cases e : r < p ∨ r = p ∧ s < k
            · have := a4 r s hc e; omega
            · have e1 : r = p := by omega
              have e2 : s = k := by omega
              rw [e1, e2]
              exact Nat.le_refl _
          · refine ⟨x, by simp (disch := omega) [mX9_laysTree_b32, Option.bind_some, nI_leE, nI_ltE, nI_eqE, nI_1, nI_add, rdI_n, rdL_n, wrI_n, wrL_n, has6b, has9b, bI_0, bI_1, nI_m1, nI_lt0, nI_le0, nI_0le, nI_eq0, leF, leT, ltF, ltT, eqF, hb, hb2, a1, a2, am, so, g], Or.inr ⟨a, b, a1, a2, a3, fun r s hc h => ?_⟩⟩
            by_cases e : r < p ∨ r = p ∧ s < k
            · exact a4 r s hc e
            · have e1 : r = p := by omega
              have e2 : s = k := by omega
              rw [e1, e2]
              omega
  · simp (disch := omega) [mX9_laysTree_b32, Option.bind_some, nI_leE, nI_ltE, nI_eqE, nI_1, nI_add, rdI_n, rdL_n, wrI_n, wrL_n, has6b, has9b, bI_0, bI_1, nI_m1, nI_lt0, nI_le0, nI_0le, nI_eq0, leF, leT, ltF, ltT, eqF]
theorem lays_b20 {F N t : Nat} {X Y : Nat → Nat} {xs ys : Nat → Int32} (hF : 1000 ≤ F) (hN : N ≤ 24) (hP : PT N X Y xs ys) (hI : IN N X Y) (ht : t + 1 < N) :
    ∃ a, a < N ∧ loop (fun s20 : Int32 × Int32 × Int32 => mX9_laysTree_b20 F (nI N) xs ys (nI (GG X Y N t)) s20.1 s20.2.1 s20.2.2) F ((-1 : Int32), (-1 : Int32), (0 : Int32)) = some (nI a, nI (VX X Y N t)) ∧ kf X Y a (VX X Y N t) = CK X Y N t ∧ a ≠ VX X Y N t ∧ VX X Y N t < N := by
  have ⟨h1, h2, h3⟩ := GG_spec (X := X) (Y := Y) hN t (by omega)
  have hG31 : GG X Y N t < 2 ^ 31 := Nat.lt_of_lt_of_le h2 (Nat.pow_le_pow_right (by omega) (by omega))
  refine Exists.elim (lpI (body := fun s20 : Int32 × Int32 × Int32 => mX9_laysTree_b20 F (nI N) xs ys (nI (GG X Y N t)) s20.1 s20.2.1 s20.2.2) (F := F)
    (fun k (x : Int32 × Int32) => (x.1, x.2, nI k)) (fun k x => bestP X Y N (GG X Y N t) (fun r _ => r < k) x) 0 N (fun x => x) (-1, -1) (by omega) (s0 := ((-1 : Int32), (-1 : Int32), (0 : Int32))) rfl
    (Or.inl ⟨rfl, rfl, fun p q _ h => by omega⟩) (fun k x _ hk hB => ?_) (fun x hB => ?_) (by omega)) ?_
  rotate_right 1
  · intro y hh_; obtain ⟨e, g⟩ := hh_
    have ⟨⟨p, p1, p2, p3, p4, p5⟩, p6⟩ := CK_spec (X := X) (Y := Y) hN ht
    rcases g with ⟨a1, a2, a3⟩ | ⟨a, b, a1, a2, a3, a4⟩
    · exact absurd p1 (a3 p (VX X Y N t) ⟨p1, p2, p3, p4⟩)
    · have u := mkk_uniq (X := X) (Y := Y) hN a3.1 a3.2.1 a3.2.2.1 a3.2.2.2 (fun p' q' hp' hq' h1' h2' => a4 p' q' ⟨hp', hq', h1', h2'⟩ hp')
      have e2 : VX X Y N t = b := u.2
      have e3 : CK X Y N t = kf X Y a b := u.1
      rw [e2]
      refine ⟨a, a3.1, ?_, e3.symm, ?_, a3.2.1⟩
      · rw [e, ← a1, ← a2]
      · intro q
        rw [q] at a3
        have := a3.2.2.1
        rw [a3.2.2.2] at this
        cases this
  · obtain ⟨y, e, g⟩ := lays_b32 hF hN hP hI hG31 hk x hB
    refine ⟨y, ?_, g⟩
    simp (disch := omega) [mX9_laysTree_b20, Option.bind_some, nI_leE, nI_ltE, nI_eqE, nI_1, nI_add, rdI_n, rdL_n, wrI_n, wrL_n, has6b, has9b, bI_0, bI_1, nI_m1, nI_lt0, nI_le0, nI_0le, nI_eq0, leF, leT, ltF, ltT, eqF, e]
  · simp (disch := omega) [mX9_laysTree_b20, Option.bind_some, nI_leE, nI_ltE, nI_eqE, nI_1, nI_add, rdI_n, rdL_n, wrI_n, wrL_n, has6b, has9b, bI_0, bI_1, nI_m1, nI_lt0, nI_le0, nI_0le, nI_eq0, leF, leT, ltF, ltT, eqF]
/-- one row of ints while a place is being made at i -/
def gap1 (N : Nat) (f : Nat → Int32) (i : Nat) (t : Nat → Int32) : Prop := ∀ j, j ≤ N → (j < i → t j = f j) ∧ (i < j → t j = f (j - 1))
theorem gap1_step {N : Nat} {f : Nat → Int32} {i : Nat} {t : Nat → Int32} (hi : 0 < i) (h : gap1 N f i t) (hN : i ≤ N) : gap1 N f (i - 1) (upd t i (t (i - 1))) := by
  intro j hj
  have ⟨h1, h2⟩ := h j hj
  have ⟨g1, g2⟩ := h (i - 1) (by omega)
  refine ⟨fun e => ?_, fun e => ?_⟩
  · rw [pk_un (show j ≠ i by omega)]; exact h1 (by omega)
  · by_cases e2 : j = i
    · subst e2; rw [pk_us]; exact g1 (by omega)
    · rw [pk_un e2]; exact h2 (by omega)
theorem gap1_end {N : Nat} {f g : Nat → Int32} {i : Nat} {v : Int32} {t : Nat → Int32} (h : gap1 N f i t) (hi : i ≤ N) (h1 : ∀ j, j < i → f j = g j) (h2 : v = g i) (h3 : ∀ j, i < j → j ≤ N → f (j - 1) = g j) : ∀ j, j < N + 1 → upd t i v j = g j := by
  intro j hj
  have ⟨k1, k2⟩ := h j (by omega)
  by_cases e1 : j < i
  · rw [pk_un (show j ≠ i by omega), k1 e1, h1 j e1]
  · by_cases e2 : j = i
    · subst e2; rw [pk_us, h2]
    · rw [pk_un e2, k2 (by omega), h3 j (by omega) (by omega)]
theorem lays_b115 {F N n a b v : Nat} {X Y K : Nat → Nat} {xs ys first second : Nat → Int32} (hF : 1000 ≤ F) (hN : N ≤ 24) (hn : n < 24) (hP : PT N X Y xs ys) (hI : IN N X Y) (ha : a < N) (hb : b < N) (hv : kf X Y a b = v)
    (hK : ∀ j, j < n → isK X Y N (K j)) (h1 : ∀ j, j < n → first j = nI (K j / 32 % 32)) (h2 : ∀ j, j < n → second j = nI (K j % 32)) :
    ∃ t : (Nat → Int32) × (Nat → Int32), loop (fun s115 : Int32 × (Nat → Int32) × (Nat → Int32) => mX9_laysTree_b115 F xs ys (nI a) (nI b) s115.1 s115.2.1 s115.2.2) F (nI n, first, second) = some (nI (ikB K v n), t.1, t.2) ∧
      gap1 n (fun j => nI (K j / 32 % 32)) (ikB K v n) t.1 ∧ gap1 n (fun j => nI (K j % 32)) (ikB K v n) t.2 := by
  have ⟨s1, s2, s3⟩ := ik_spec (K := K) (k := v) (n := n)
  generalize ikB K v n = i0 at s1 s2 s3 ⊢
  refine Exists.elim (lpI (body := fun s115 : Int32 × (Nat → Int32) × (Nat → Int32) => mX9_laysTree_b115 F xs ys (nI a) (nI b) s115.1 s115.2.1 s115.2.2) (F := F)
    (fun k (t : (Nat → Int32) × (Nat → Int32)) => (nI (n - k), t.1, t.2)) (fun k t => gap1 n (fun j => nI (K j / 32 % 32)) (n - k) t.1 ∧ gap1 n (fun j => nI (K j % 32)) (n - k) t.2) 0 (n - i0) (fun t => (nI i0, t.1, t.2)) (first, second) (by omega) (s0 := (nI n, first, second)) rfl
    ⟨fun j hj => ⟨fun e => h1 j e, fun e => by omega⟩, fun j hj => ⟨fun e => h2 j e, fun e => by omega⟩⟩ (fun k t _ hk hI2 => ?_) (fun t hI2 => ?_) (by omega)) ?_
  rotate_right 1
  · intro t hh_; obtain ⟨e, g⟩ := hh_
    rw [show n - (n - i0) = i0 by omega] at g
    exact ⟨t, e, g⟩
  · have u1 := gap1_step (by omega) hI2.1 (show n - k ≤ n by omega)
    have u2 := gap1_step (by omega) hI2.2 (show n - k ≤ n by omega)
    rw [show n - k - 1 = n - (k + 1) by omega] at u1 u2
    refine ⟨(upd t.1 (n - k) (t.1 (n - (k + 1))), upd t.2 (n - k) (t.2 (n - (k + 1)))), ?_, u1, u2⟩
    have g1 := (hI2.1 (n - (k + 1)) (by omega)).1 (by omega)
    have g2 := (hI2.2 (n - (k + 1)) (by omega)).1 (by omega)
    have ⟨k1, k2, k3, k4⟩ := isK_spec hN (hK (n - (k + 1)) (by omega))
    have q := s2 (n - (k + 1)) (by omega) (by omega)
    have so := sooner9 (F := F) hN hP hI ha hb (show K (n - (k + 1)) / 32 % 32 < N by omega) k2
    rw [← k3, hv] at so
    have e1 : nI (n - k) - 1 = nI (n - (k + 1)) := nI_s1 (a := n - k) (by omega)
    simp only [] at g1 g2
    simp (disch := omega) [mX9_laysTree_b115, Option.bind_some, nI_leE, nI_ltE, nI_eqE, nI_1, nI_add, rdI_n, rdL_n, wrI_n, wrL_n, has6b, has9b, bI_0, bI_1, nI_m1, nI_lt0, nI_le0, nI_0le, nI_eq0, leF, leT, ltF, ltT, eqF, e1, g1, g2, so, q]
  · rw [show n - (n - i0) = i0 by omega] at hI2 ⊢
    by_cases h0 : i0 = 0
    · subst h0
      simp (disch := omega) [mX9_laysTree_b115, Option.bind_some, nI_leE, nI_ltE, nI_eqE, nI_1, nI_add, rdI_n, rdL_n, wrI_n, wrL_n, has6b, has9b, bI_0, bI_1, nI_m1, nI_lt0, nI_le0, nI_0le, nI_eq0, leF, leT, ltF, ltT, eqF]
    · have g1 := (hI2.1 (i0 - 1) (by omega)).1 (by omega)
      have g2 := (hI2.2 (i0 - 1) (by omega)).1 (by omega)
      have ⟨k1, k2, k3, k4⟩ := isK_spec hN (hK (i0 - 1) (by omega))
      have q := s3 (by omega)
      have so := sooner9 (F := F) hN hP hI ha hb (show K (i0 - 1) / 32 % 32 < N by omega) k2
      rw [← k3, hv] at so
      have q2 : ¬ v < K (i0 - 1) := by omega
      have e1 : nI i0 - 1 = nI (i0 - 1) := nI_s1 (by omega)
      simp only [] at g1 g2
      simp (disch := omega) [mX9_laysTree_b115, Option.bind_some, nI_leE, nI_ltE, nI_eqE, nI_1, nI_add, rdI_n, rdL_n, wrI_n, wrL_n, has6b, has9b, bI_0, bI_1, nI_m1, nI_lt0, nI_le0, nI_0le, nI_eq0, leF, leT, ltF, ltT, eqF, e1, g1, g2, so, q2, h0]
theorem kf_fst {X Y : Nat → Nat} {a b : Nat} (ha : a < 32) (hb : b < 32) : (if nI b < nI a then nI b else nI a) = nI (kf X Y a b / 32 % 32) := by rw [minI (by omega) (by omega), kf_min ha hb]
theorem kf_snd {X Y : Nat → Nat} {a b : Nat} (ha : a < 32) (hb : b < 32) : (if nI a < nI b then nI b else nI a) = nI (kf X Y a b % 32) := by rw [maxI (by omega) (by omega), kf_max ha hb]
theorem lays_b4 {F N : Nat} {X Y : Nat → Nat} {xs ys : Nat → Int32} (hF : 1000 ≤ F) (hN : N ≤ 24) (hP : PT N X Y xs ys) (hI : IN N X Y) (first second : Nat → Int32) :
    ∃ t : (Nat → Int32) × (Nat → Int32), loop (fun s4 : Int32 × Int32 × (Nat → Int32) × (Nat → Int32) => mX9_laysTree_b4 F (nI N) xs ys s4.1 s4.2.1 s4.2.2.1 s4.2.2.2) F ((1 : Int32), (0 : Int32), first, second) = some t ∧
      ∀ j, j < N - 1 → t.1 j = nI (KS X Y N (N - 1) j / 32 % 32) ∧ t.2 j = nI (KS X Y N (N - 1) j % 32) := by
  refine Exists.elim (lpI (body := fun s4 : Int32 × Int32 × (Nat → Int32) × (Nat → Int32) => mX9_laysTree_b4 F (nI N) xs ys s4.1 s4.2.1 s4.2.2.1 s4.2.2.2) (F := F)
    (fun k (t : (Nat → Int32) × (Nat → Int32)) => (nI (GG X Y N k), nI k, t.1, t.2)) (fun k t => ∀ j, j < k → t.1 j = nI (KS X Y N k j / 32 % 32) ∧ t.2 j = nI (KS X Y N k j % 32)) 0 (N - 1) (fun t => t) (first, second) (by omega) (s0 := ((1 : Int32), (0 : Int32), first, second)) rfl
    (fun j hj => by omega) (fun k t _ hk hI2 => ?_) (fun t hI2 => ?_) (by omega)) ?_
  rotate_right 1
  · intro t hh_; obtain ⟨e, g⟩ := hh_
    exact ⟨t, e, g⟩
  · have ⟨h1, h2, h3⟩ := GG_spec (X := X) (Y := Y) hN k (by omega)
    have hG31 : GG X Y N k < 2 ^ 31 := Nat.lt_of_lt_of_le h2 (Nat.pow_le_pow_right (by omega) (by omega))
    obtain ⟨a, a1, a2, a3, a4, a5⟩ := lays_b20 (F := F) (t := k) hF hN hP hI (by omega)
    obtain ⟨u, u1, u2, u3⟩ := lays_b115 (F := F) (n := k) (K := KS X Y N k) (first := t.1) (second := t.2) hF hN (by omega) hP hI a1 a5 a3 (KS_isK hN k (by omega)) (fun j hj => (hI2 j hj).1) (fun j hj => (hI2 j hj).2)
    have sb := setbit (m := GG X Y N k) (k := VX X Y N k) hG31 (by omega)
    have i1 := (ik_spec (K := KS X Y N k) (k := CK X Y N k) (n := k)).1
    have f1 := kf_fst (X := X) (Y := Y) (a := a) (b := VX X Y N k) (by omega) (by omega)
    have f2 := kf_snd (X := X) (Y := Y) (a := a) (b := VX X Y N k) (by omega) (by omega)
    rw [a3] at f1 f2
    refine ⟨(upd u.1 (ikB (KS X Y N k) (CK X Y N k) k) (nI (CK X Y N k / 32 % 32)), upd u.2 (ikB (KS X Y N k) (CK X Y N k) k) (nI (CK X Y N k % 32))), ?_, ?_⟩
    · have j9 := joins9 (F := F) hN
      simp (disch := omega) only [mX9_laysTree_b4, Option.bind_some, nI_leE, leF, nI_1, wrI_n, j9, a2, u1, sb, f1, f2, if_false]
      rfl
    · intro j hj
      rw [KS_succ]
      refine ⟨gap1_end (g := fun j => nI (insB (KS X Y N k) (ikB (KS X Y N k) (CK X Y N k) k) (CK X Y N k) j / 32 % 32)) u2 i1 (fun j hj => ?_) ?_ (fun j h1 h2 => ?_) j hj, gap1_end (g := fun j => nI (insB (KS X Y N k) (ikB (KS X Y N k) (CK X Y N k) k) (CK X Y N k) j % 32)) u3 i1 (fun j hj => ?_) ?_ (fun j h1 h2 => ?_) j hj⟩
      all_goals simp only [insB]
      · rw [if_pos hj]
      · rw [if_neg (by omega), if_pos trivial]
      · rw [if_neg (by omega), if_neg (by omega)]
      · rw [if_pos hj]
      · rw [if_neg (by omega), if_pos trivial]
      · rw [if_neg (by omega), if_neg (by omega)]
  · have j9 := joins9 (F := F) hN
    simp (disch := omega) [mX9_laysTree_b4, Option.bind_some, nI_leE, nI_ltE, nI_eqE, nI_1, nI_add, rdI_n, rdL_n, wrI_n, wrL_n, has6b, has9b, bI_0, bI_1, nI_m1, nI_lt0, nI_le0, nI_0le, nI_eq0, leF, leT, ltF, ltT, eqF, j9]
theorem lays_b223 {F N : Nat} {X Y K : Nat → Nat} {xs ys first second : Nat → Int32} (hF : 1000 ≤ F) (hN : N ≤ 24) (hP : PT N X Y xs ys) (hI : IN N X Y) (hK : ∀ j, j < N - 1 → isK X Y N (K j))
    (h1 : ∀ j, j < N - 1 → first j = nI (K j / 32 % 32) ∧ second j = nI (K j % 32)) (wide : Nat → Int32) :
    ∃ t, loop (fun s223 : Int32 × (Nat → Int32) => mX9_laysTree_b223 F (nI N) xs ys first second s223.1 s223.2) F ((0 : Int32), wide) = some t ∧ ∀ j, j < N - 1 → t j = nI (K j / 1024) := by
  have j9 := joins9 (F := F) hN
  refine lpI (body := fun s223 : Int32 × (Nat → Int32) => mX9_laysTree_b223 F (nI N) xs ys first second s223.1 s223.2) (F := F)
    (fun k (t : Nat → Int32) => (nI k, t)) (fun k t => ∀ j, j < k → t j = nI (K j / 1024)) 0 (N - 1) (fun t => t) wide (by omega) (s0 := ((0 : Int32), wide)) rfl
    (fun j hj => by omega) (fun k t _ hk hI2 => ?_) (fun t hI2 => ?_) (by omega)
  · have ⟨k1, k2, k3, k4⟩ := isK_spec hN (hK k hk)
    have a9 := apart9 (F := F) hN hP hI (show K k / 32 % 32 < N by omega) k2
    have ⟨f1, f2⟩ := h1 k hk
    refine ⟨upd t k (nI (K k / 1024)), ?_, fun j hj => ?_⟩
    · simp (disch := omega) [mX9_laysTree_b223, Option.bind_some, nI_leE, nI_ltE, nI_eqE, nI_1, nI_add, rdI_n, rdL_n, wrI_n, wrL_n, has6b, has9b, bI_0, bI_1, nI_m1, nI_lt0, nI_le0, nI_0le, nI_eq0, leF, leT, ltF, ltT, eqF, j9, f1, f2, a9, k4]
    · by_cases e2 : j = k
      · subst e2; rw [pk_us]
      · rw [pk_un e2]; exact hI2 j (by omega)
  · simp (disch := omega) [mX9_laysTree_b223, Option.bind_some, nI_leE, nI_ltE, nI_eqE, nI_1, nI_add, rdI_n, rdL_n, wrI_n, wrL_n, has6b, has9b, bI_0, bI_1, nI_m1, nI_lt0, nI_le0, nI_0le, nI_eq0, leF, leT, ltF, ltT, eqF, j9]
