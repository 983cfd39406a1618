/-! ===== PURE 37: call stirred ===== -/
theorem sum_pick {B f : Nat → Nat} {a : Nat} : ∀ {m}, (∀ i j, i < j → j < m → B i ≠ B j) → sumB (fun k => if B k = a then f k else 0) m = match fstB (fun i => decide (B i = a)) m with | some k => f k | none => 0
  | 0, _ => rfl
  | m + 1, h => by
    have ih := sum_pick (f := f) (a := a) (m := m) (fun i j h1 h2 => h i j h1 (by omega))
    simp only [sumB, fstB]
    rw [ih]
    cases e : fstB (fun i => decide (B i = a)) m with
    | some k =>
      have ⟨k1, k2, _⟩ := fstB_some.mp e
      have k3 := of_decide_eq_true k2
      have : B m ≠ a := fun q => h k m k1 (by omega) (k3.trans q.symm)
      simp [this]
    | none => by_cases q : B m = a <;> simp [q]
theorem sum_tri {f : Nat → Nat} {p : Nat} : ∀ {N}, p ≤ N → sumB (fun q => if q < p then f q else 0) N = sumB f p
  | 0, h => by rw [show p = 0 by omega]; rfl
  | N + 1, h => by
    rcases Nat.eq_or_lt_of_le h with e | e
    · rw [e]; exact sumB_congr (fun k hk => if_pos hk)
    · simp only [sumB]
      rw [sum_tri (N := N) (by omega), if_neg (by omega)]
      rfl
/-- pairs of which both are on both sides, told apart once only -/
def stE (s t : Nat → Nat) (p q p' q' : Nat) : Nat := if (s p).testBit q = (t p').testBit q' then 0 else 1
def st8 (A B s t : Nat → Nat) (M p q : Nat) : Nat := match fstB (fun i => decide (B i = A p)) M with
  | some p' => (match fstB (fun i => decide (B i = A q)) M with
    | some q' => stE s t p q p' q'
    | none => 0)
  | none => 0
def st9 (A B s t : Nat → Nat) (N p' q' : Nat) : Nat := match fstB (fun i => decide (A i = B p')) N with
  | some p => (match fstB (fun i => decide (A i = B q')) N with
    | some q => stE s t p q p' q'
    | none => 0)
  | none => 0
theorem st8_sum {A B s t : Nat → Nat} {M p q : Nat} (hB : ∀ i j, i < j → j < M → B i ≠ B j) : st8 A B s t M p q = sumB (fun p' => sumB (fun q' => if B p' = A p then (if B q' = A q then stE s t p q p' q' else 0) else 0) M) M := by
  have e : ∀ p', sumB (fun q' => if B p' = A p then (if B q' = A q then stE s t p q p' q' else 0) else 0) M = if B p' = A p then (match fstB (fun i => decide (B i = A q)) M with | some q' => stE s t p q p' q' | none => 0) else 0 := fun p' => by
    by_cases c : B p' = A p
    · rw [if_pos c, ← sum_pick (f := fun q' => stE s t p q p' q') hB]
      exact sumB_congr (fun k _ => if_pos c)
    · rw [if_neg c]
      rw [sumB_congr (g := fun _ => 0) (fun k _ => if_neg c), sumB_0]
  rw [sumB_congr (fun p' _ => e p'), sum_pick (f := fun p' => match fstB (fun i => decide (B i = A q)) M with | some q' => stE s t p q p' q' | none => 0) hB]
  unfold st8
  cases fstB (fun i => decide (B i = A p)) M <;> rfl
theorem st9_sum {A B s t : Nat → Nat} {N p' q' : Nat} (hA : ∀ i j, i < j → j < N → A i ≠ A j) : st9 A B s t N p' q' = sumB (fun p => sumB (fun q => if A p = B p' then (if A q = B q' then stE s t p q p' q' else 0) else 0) N) N := by
  have e : ∀ p, sumB (fun q => if A p = B p' then (if A q = B q' then stE s t p q p' q' else 0) else 0) N = if A p = B p' then (match fstB (fun i => decide (A i = B q')) N with | some q => stE s t p q p' q' | none => 0) else 0 := fun p => by
    by_cases c : A p = B p'
    · rw [if_pos c, ← sum_pick (f := fun q => stE s t p q p' q') hA]
      exact sumB_congr (fun k _ => if_pos c)
    · rw [if_neg c]
      rw [sumB_congr (g := fun _ => 0) (fun k _ => if_neg c), sumB_0]
  rw [sumB_congr (fun p _ => e p), sum_pick (f := fun p => match fstB (fun i => decide (A i = B q')) N with | some q => stE s t p q p' q' | none => 0) hA]
  unfold st9
  cases fstB (fun i => decide (A i = B p')) N <;> rfl
theorem st_same {A B s t : Nat → Nat} {N M : Nat} (hA : ∀ i j, i < j → j < N → A i < A j) (hB : ∀ i j, i < j → j < M → B i < B j) :
    sumB (fun p => sumB (fun q => st8 A B s t M p q) p) N = sumB (fun p' => sumB (fun q' => st9 A B s t N p' q') p') M := by
  have iA : ∀ i j, i < j → j < N → A i ≠ A j := fun i j h1 h2 => Nat.ne_of_lt (hA i j h1 h2)
  have iB : ∀ i j, i < j → j < M → B i ≠ B j := fun i j h1 h2 => Nat.ne_of_lt (hB i j h1 h2)
  have L : sumB (fun p => sumB (fun q => st8 A B s t M p q) p) N = sumB (fun p => sumB (fun q => sumB (fun p' => sumB (fun q' => if q < p then (if B p' = A p then (if B q' = A q then stE s t p q p' q' else 0) else 0) else 0) M) M) N) N := by
    refine sumB_congr (fun p hp => ?_)
    rw [← sum_tri (f := fun q => st8 A B s t M p q) (N := N) (by omega)]
    refine sumB_congr (fun q hq => ?_)
    by_cases c : q < p
    · rw [if_pos c, st8_sum iB]
      exact sumB_congr (fun p' _ => sumB_congr (fun q' _ => (if_pos c).symm))
    · rw [if_neg c]
      rw [sumB_congr (g := fun _ => 0) (fun p' _ => by rw [sumB_congr (g := fun _ => 0) (fun q' _ => if_neg c), sumB_0]), sumB_0]
  have R : sumB (fun p' => sumB (fun q' => st9 A B s t N p' q') p') M = sumB (fun p' => sumB (fun q' => sumB (fun p => sumB (fun q => if q' < p' then (if A p = B p' then (if A q = B q' then stE s t p q p' q' else 0) else 0) else 0) N) N) M) M := by
    refine sumB_congr (fun p' hp => ?_)
    rw [← sum_tri (f := fun q' => st9 A B s t N p' q') (N := M) (by omega)]
    refine sumB_congr (fun q' hq => ?_)
    by_cases c : q' < p'
    · rw [if_pos c, st9_sum iA]
      exact sumB_congr (fun p _ => sumB_congr (fun q _ => (if_pos c).symm))
    · rw [if_neg c]
      rw [sumB_congr (g := fun _ => 0) (fun p _ => by rw [sumB_congr (g := fun _ => 0) (fun q _ => if_neg c), sumB_0]), sumB_0]
  rw [L, R]
  rw [sumB_congr (g := fun p => sumB (fun p' => sumB (fun q => sumB (fun q' => if q < p then (if B p' = A p then (if B q' = A q then stE s t p q p' q' else 0) else 0) else 0) M) N) M) (fun p _ => sumB_swap N)]
  rw [sumB_swap N]
  refine sumB_congr (fun p' hp' => ?_)
  rw [sumB_congr (g := fun p => sumB (fun q' => sumB (fun q => if q < p then (if B p' = A p then (if B q' = A q then stE s t p q p' q' else 0) else 0) else 0) N) M) (fun p _ => sumB_swap N)]
  rw [sumB_swap N]
  refine sumB_congr (fun q' hq' => sumB_congr (fun p hp => sumB_congr (fun q hq => ?_)))
  by_cases c1 : A p = B p'
  · by_cases c2 : A q = B q'
    · have e : q < p ↔ q' < p' := by
        constructor
        · intro h
          refine Nat.lt_of_not_le (fun g => ?_)
          have a := hA q p h hp
          rcases Nat.eq_or_lt_of_le g with e | e
          · rw [e] at c1; omega
          · have := hB p' q' e hq'; omega
        · intro h
          refine Nat.lt_of_not_le (fun g => ?_)
          have a := hB q' p' h hp'
          rcases Nat.eq_or_lt_of_le g with e | e
          · rw [e] at c1; omega
          · have := hA p q e hq; omega
      rw [if_pos c1.symm, if_pos c2.symm, if_pos c1, if_pos c2]
      by_cases c3 : q < p
      · rw [if_pos c3, if_pos (e.mp c3)]
      · rw [if_neg c3, if_neg (fun h => c3 (e.mpr h))]
    · have n1 : ¬ B q' = A q := fun h => c2 h.symm
      rw [if_pos c1.symm, if_pos c1, if_neg n1, if_neg c2]
      split
      · split <;> rfl
      · split <;> rfl
  · have n1 : ¬ B p' = A p := fun h => c1 h.symm
    rw [if_neg n1, if_neg c1]
    split
    · split <;> rfl
    · split <;> rfl
theorem find_pl {N M p : Nat} {X Y W U V Z : Nat → Nat} {ws us vs : Nat → Int32} (gN : GOOD N X Y W) (gM : GOOD M U V Z) (hP : ROWS M U V Z ws us vs) (hp : p < N) :
    fstB (fun i => decide (us i = nI (X p)) && decide (vs i = nI (Y p))) M = fstB (fun i => decide (plB U V i = plB X Y p)) M := fstB_congr (fun i hi => by
  have ⟨_, p2, p3⟩ := hP i hi
  have ⟨a1, a2⟩ := gM.2.1 i hi
  have ⟨b1, b2⟩ := gN.2.1 p hp
  rw [p2, p3, ← Bool.decide_and]
  apply decide_eq_decide.mpr
  rw [nI_eqE (by omega) (by omega), nI_eqE (by omega) (by omega)]
  unfold plB
  omega)
theorem ga_eq {N p q : Nat} {s : Nat → Nat} (hN : N ≤ 24) (hS : PART N s) (hp : p < N) (hq : q < N) : ixB s (lo (s p)) = ixB s (lo (s q)) ↔ (s p).testBit q = true := by
  have lp := lo_part hN hS hp
  have lq := lo_part hN hS hq
  constructor
  · intro h
    have e := hd_uniq (hd_lo hN hS hp) (hd_lo hN hS hq) h
    have e2 : s p = s q := by rw [← lp.2.2.1, ← lq.2.2.1, e]
    rw [e2]
    exact (hS q hq).1
  · intro h
    rw [(hS p hp).2.2 q hq h]
/-- the class's count of one point's pairs -/
theorem st_in8 {F N M p : Nat} {A B s t : Nat → Nat} {g10 ga gb : Nat → Int32} {c0 : Nat} (hF : 1000 ≤ F) (hN : N ≤ 24) (hM : M ≤ 24) (hS : PART N s) (hT : PART M t) (hp : p < N) (hga : ∀ p, p < N → ga p = nI (ixB s (lo (s p)))) (hgb : ∀ p, p < M → gb p = nI (ixB t (lo (t p))))
    (hr : ∀ q, q ≤ p → g10 q = oI (fstB (fun i => decide (B i = A q)) M)) :
    loop (fun s94 : Int32 × Int32 => mX8_stirred_b94 F ga gb (nI p) g10 s94.1 s94.2) F (nI c0, (0 : Int32)) = some (nI (c0 + sumB (fun q => st8 A B s t M p q) p)) := by
  have ixs : ∀ q, q < N → ixB s (lo (s q)) < 31 := fun q hq => by
    have l := lo_part hN hS hq
    have := ix_lt (s := s) (p := lo (s q))
    omega
  have ixt : ∀ q, q < M → ixB t (lo (t q)) < 31 := fun q hq => by
    have l := lo_part hM hT hq
    have := ix_lt (s := t) (p := lo (t q))
    omega
  cases ep : fstB (fun i => decide (B i = A p)) M with
  | none =>
    have z : sumB (fun q => st8 A B s t M p q) p = 0 := by
      rw [sumB_congr (g := fun _ => 0) (fun q _ => by unfold st8; rw [ep]), sumB_0]
    rw [z]
    have hrp := hr p (Nat.le_refl _)
    rw [ep] at hrp
    refine lp (fun _ => (nI c0, (0 : Int32))) 0 0 _ (by omega) rfl (fun k _ hk => by omega) ?_ (by omega)
    unfold mX8_stirred_b94
    simp only []
    by_cases p0 : p = 0
    · subst p0
      rw [if_pos (show nI 0 ≤ (0 : Int32) by decide +kernel)]
      rfl
    · rw [if_neg (show ¬ nI p ≤ (0 : Int32) by rw [nI_le0 (by omega)]; exact p0), rdI_n (by omega) (by omega), Option.bind_some, hrp, if_pos (show oI none = -1 from rfl)]
      rfl
  | some p' =>
    have hrp := hr p (Nat.le_refl _)
    rw [ep] at hrp
    have hp' := fstB_lt ep
    refine lp (fun k => (nI (c0 + sumB (fun q => st8 A B s t M p q) k), nI k)) 0 p _ (by omega) rfl (fun k _ hk => ?_) ?_ (by omega)
    · have hrk := hr k (by omega)
      show mX8_stirred_b94 F ga gb (nI p) g10 (nI (c0 + sumB (fun q => st8 A B s t M p q) k)) (nI k) = some (.inl (nI (c0 + (sumB (fun q => st8 A B s t M p q) k + st8 A B s t M p k)), nI (k + 1)))
      generalize sumB (fun q => st8 A B s t M p q) k = c1
      unfold mX8_stirred_b94
      rw [if_neg (show ¬ nI p ≤ nI k by rw [nI_leE (by omega) (by omega)]; omega), rdI_n (by omega) (by omega), Option.bind_some, hrp, if_neg (show ¬ oI (some p') = -1 by rw [show oI (some p') = nI p' from rfl, nI_m1 (by omega)]; exact id), rdI_n (by omega) (by omega), Option.bind_some, hrk]
      cases ek : fstB (fun i => decide (B i = A k)) M with
      | none =>
        have e8 : st8 A B s t M p k = 0 := by unfold st8; rw [ep, ek]
        rw [if_pos (show oI none = -1 from rfl), e8, nI_1]
        rfl
      | some k' =>
        have hk' := fstB_lt ek
        have e8 : st8 A B s t M p k = stE s t p k p' k' := by unfold st8; rw [ep, ek]
        rw [ek] at hrk
        have a1 := ga_eq hN hS hp (show k < N by omega)
        have a2 := ga_eq hM hT hp' hk'
        have j148 : ∀ y : Bool, mX8_stirred_j148 F gb (nI p) g10 (nI (c0 + c1)) (nI k) (bI y) = some (.inl (nI (c0 + (c1 + if y = (t p').testBit k' then 0 else 1)), nI (k + 1))) := fun y => by
          unfold mX8_stirred_j148
          rw [rdI_n (by omega) (by omega), Option.bind_some, hrp, show oI (some p') = nI p' from rfl, rdI_n (by omega) (by omega), Option.bind_some, rdI_n (by omega) (by omega), Option.bind_some, hrk, show oI (some k') = nI k' from rfl, rdI_n (by omega) (by omega), Option.bind_some, hgb p' hp', hgb k' hk', nI_1]
          have z0 : nI (c0 + c1) + 0 = nI (c0 + c1) := Int32.add_zero _
          cases e : (t p').testBit k' with
          | true =>
            rw [if_pos (congrArg nI (a2.mpr e))]
            cases y with
            | true => rw [if_pos rfl, Option.bind_some, z0]; rfl
            | false => rw [if_neg (show ¬ bI false = 1 by decide +kernel), Option.bind_some, nI_1]; rfl
          | false =>
            have ne : ¬ nI (ixB t (lo (t p'))) = nI (ixB t (lo (t k'))) := fun q => by
              have := a2.mp ((nI_eq (by have := ixt p' hp'; omega) (by have := ixt k' hk'; omega)).mp q)
              rw [e] at this
              cases this
            rw [if_neg ne]
            cases y with
            | true => rw [if_neg (show ¬ bI true = 0 by decide +kernel), Option.bind_some, nI_1]; rfl
            | false => rw [if_pos rfl, Option.bind_some, z0]; rfl
        rw [if_neg (show ¬ oI (some k') = -1 by rw [show oI (some k') = nI k' from rfl, nI_m1 (by omega)]; exact id), rdI_n (by omega) (by omega), Option.bind_some, rdI_n (by omega) (by omega), Option.bind_some, hga p hp, hga k (by omega), e8]
        unfold stE
        cases e : (s p).testBit k with
        | true =>
          rw [if_pos (congrArg nI (a1.mpr e))]
          exact j148 true
        | false =>
          have ne : ¬ nI (ixB s (lo (s p))) = nI (ixB s (lo (s k))) := fun q => by
            have := a1.mp ((nI_eq (by have := ixs p hp; omega) (by have := ixs k (by omega); omega)).mp q)
            rw [e] at this
            cases this
          rw [if_neg ne]
          exact j148 false
    · unfold mX8_stirred_b94
      simp only []
      rw [if_pos (show nI p ≤ nI p by rw [nI_leE (by omega) (by omega)]; omega)]
