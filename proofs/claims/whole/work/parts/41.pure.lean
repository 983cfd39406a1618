/-! ===== PURE 32: groups by rank ===== -/
def rpB (w R : Nat → Nat) (p n : Nat) : Nat := match lstB (fun j => decide (w p ≤ w (R j))) n with
  | some j => j + 1
  | none => 0
theorem rp_spec {w R : Nat → Nat} {p n : Nat} : rpB w R p n ≤ n ∧ (∀ j, rpB w R p n ≤ j → j < n → w (R j) < w p) ∧ (0 < rpB w R p n → w p ≤ w (R (rpB w R p n - 1))) := by
  unfold rpB
  cases h : lstB (fun j => decide (w p ≤ w (R j))) n with
  | none =>
    refine ⟨Nat.zero_le _, fun j h1 h2 => ?_, fun h => by simp at h⟩
    have := of_decide_eq_false (lstB_none.mp h j h2)
    omega
  | some i =>
    have ⟨h1, h2, h3⟩ := lstB_some.mp h
    refine ⟨by simp; omega, fun j g1 g2 => ?_, fun _ => ?_⟩
    · simp at g1
      have := of_decide_eq_false (h3 j (by omega) g2)
      omega
    · have := of_decide_eq_true h2
      simpa using this
/-- the heads below k, by weight, the greatest first, then by number -/
def rlB (s w : Nat → Nat) : Nat → Nat → Nat
  | 0 => fun _ => 0
  | k + 1 => if hdB s k = true then insB (rlB s w k) (rpB w (rlB s w k) k (ixB s k)) k else rlB s w k
theorem rl_t {s w : Nat → Nat} {k : Nat} (h : hdB s k = true) : rlB s w (k + 1) = insB (rlB s w k) (rpB w (rlB s w k) k (ixB s k)) k := if_pos h
theorem rl_f {s w : Nat → Nat} {k : Nat} (h : hdB s k = false) : rlB s w (k + 1) = rlB s w k := if_neg (by rw [h]; decide)
theorem ah_iff {w : Nat → Nat} {p q : Nat} : ahB w p q = true ↔ w p < w q ∨ w q = w p ∧ q < p := by
  unfold ahB
  simp only [Bool.or_eq_true, Bool.and_eq_true, decide_eq_true_iff]
theorem rl_spec {s w : Nat → Nat} : ∀ k, (∀ j, j < ixB s k → rlB s w k j < k ∧ hdB s (rlB s w k j) = true) ∧ ∀ i j, i < j → j < ixB s k → ahB w (rlB s w k j) (rlB s w k i) = true
  | 0 => ⟨fun j hj => by simp [ixB, cntB] at hj, fun i j _ hj => by simp [ixB, cntB] at hj⟩
  | k + 1 => by
    have ⟨a, b⟩ := rl_spec (s := s) (w := w) k
    cases hd : hdB s k with
    | false =>
      rw [rl_f hd, ix_succ, if_neg (by rw [hd]; decide), Nat.add_zero]
      exact ⟨fun j hj => ⟨by have := (a j hj).1; omega, (a j hj).2⟩, b⟩
    | true =>
      rw [rl_t hd, ix_succ, if_pos hd]
      have ⟨s1, s2, s3⟩ := rp_spec (w := w) (R := rlB s w k) (p := k) (n := ixB s k)
      generalize rpB w (rlB s w k) k (ixB s k) = i0 at s1 s2 s3 ⊢
      generalize rlB s w k = R at a b s2 s3 ⊢
      refine ⟨fun j hj => ⟨insB_all (P := fun v => v < k + 1) s1 (fun j hj => by have := (a j hj).1; omega) (by omega) j hj, insB_all (P := fun v => hdB s v = true) s1 (fun j hj => (a j hj).2) hd j hj⟩, fun i j hij hj => ?_⟩
      have low : ∀ p, p < i0 → w k ≤ w (R p) := by
        intro p hp
        have q := s3 (by omega)
        by_cases e : p = i0 - 1
        · rw [e]; exact q
        · have := ah_iff.mp (b p (i0 - 1) (by omega) (by omega))
          omega
      unfold insB
      by_cases c1 : i < i0
      · rw [if_pos c1]
        by_cases d1 : j < i0
        · rw [if_pos d1]; exact b i j hij (by omega)
        · rw [if_neg d1]
          by_cases d2 : j = i0
          · rw [if_pos d2]
            have := low i c1
            have := (a i (by omega)).1
            exact ah_iff.mpr (by omega)
          · rw [if_neg d2]; exact b i (j - 1) (by omega) (by omega)
      · rw [if_neg c1, if_neg (show ¬ j < i0 by omega), if_neg (show ¬ j = i0 by omega)]
        by_cases c2 : i = i0
        · rw [if_pos c2]
          have := s2 (j - 1) (by omega) (by omega)
          exact ah_iff.mpr (by omega)
        · rw [if_neg c2]; exact b (i - 1) (j - 1) (by omega) (by omega)
theorem cnt_ins {f : Nat → Bool} {R : Nat → Nat} {i v : Nat} : ∀ n, i ≤ n → cntB (fun j => f (insB R i v j)) (n + 1) = cntB (fun j => f (R j)) n + (if f v = true then 1 else 0)
  | 0, h => by
    have : i = 0 := by omega
    subst this
    simp [cntB, insB]
  | n + 1, h => by
    show cntB (fun j => f (insB R i v j)) (n + 1) + (if f (insB R i v (n + 1)) = true then 1 else 0) = (cntB (fun j => f (R j)) n + (if f (R n) = true then 1 else 0)) + (if f v = true then 1 else 0)
    rcases Nat.eq_or_lt_of_le h with e | e
    · subst e
      have e1 : insB R (n + 1) v (n + 1) = v := by unfold insB; rw [if_neg (by omega), if_pos rfl]
      have e2 : cntB (fun j => f (insB R (n + 1) v j)) (n + 1) = cntB (fun j => f (R j)) (n + 1) := cntB_congr (fun k hk => by unfold insB; rw [if_pos hk])
      rw [e1, e2]
      rfl
    · have e1 : insB R i v (n + 1) = R n := by unfold insB; rw [if_neg (by omega), if_neg (by omega)]; rfl
      rw [e1, cnt_ins n (by omega)]
      omega
theorem sum_ins {g R : Nat → Nat} {i v : Nat} : ∀ n, i ≤ n → sumB (fun j => g (insB R i v j)) (n + 1) = sumB (fun j => g (R j)) n + g v
  | 0, h => by
    have : i = 0 := by omega
    subst this
    simp [sumB, insB]
  | n + 1, h => by
    show sumB (fun j => g (insB R i v j)) (n + 1) + g (insB R i v (n + 1)) = (sumB (fun j => g (R j)) n + g (R n)) + g v
    rcases Nat.eq_or_lt_of_le h with e | e
    · subst e
      have e1 : insB R (n + 1) v (n + 1) = v := by unfold insB; rw [if_neg (by omega), if_pos rfl]
      have e2 : sumB (fun j => g (insB R (n + 1) v j)) (n + 1) = sumB (fun j => g (R j)) (n + 1) := sumB_congr (fun k hk => by unfold insB; rw [if_pos hk])
      rw [e1, e2]
      rfl
    · have e1 : insB R i v (n + 1) = R n := by unfold insB; rw [if_neg (by omega), if_neg (by omega)]; rfl
      rw [e1, sum_ins n (by omega)]
      omega
theorem rl_cnt {s w : Nat → Nat} (f : Nat → Bool) : ∀ k, cntB (fun p => hdB s p && f p) k = cntB (fun j => f (rlB s w k j)) (ixB s k)
  | 0 => rfl
  | k + 1 => by
    have ih := rl_cnt (s := s) (w := w) f k
    show cntB (fun p => hdB s p && f p) k + (if (hdB s k && f k) = true then 1 else 0) = _
    rw [ih]
    cases hd : hdB s k with
    | false => rw [rl_f hd, ix_succ, if_neg (show ¬ hdB s k = true by rw [hd]; decide), Bool.false_and]; rfl
    | true => rw [rl_t hd, ix_succ, if_pos hd, cnt_ins _ rp_spec.1, Bool.true_and]
theorem rl_sum {s w : Nat → Nat} (g : Nat → Nat) : ∀ k, sumB (fun p => if hdB s p = true then g p else 0) k = sumB (fun j => g (rlB s w k j)) (ixB s k)
  | 0 => rfl
  | k + 1 => by
    have ih := rl_sum (s := s) (w := w) g k
    show sumB (fun p => if hdB s p = true then g p else 0) k + (if hdB s k = true then g k else 0) = _
    rw [ih]
    cases hd : hdB s k with
    | false => rw [rl_f hd, ix_succ, if_neg (show ¬ hdB s k = true by rw [hd]; decide), if_neg (by decide)]; rfl
    | true => rw [rl_t hd, ix_succ, if_pos hd, sum_ins _ rp_spec.1, if_pos rfl]
theorem cnt_below {i : Nat} : ∀ n, cntB (fun j => decide (j < i)) n = min i n
  | 0 => by simp [cntB]
  | n + 1 => by
    simp only [cntB]
    rw [cnt_below n]
    by_cases h : n < i
    · rw [if_pos (decide_eq_true h)]; omega
    · rw [if_neg (by rw [decide_eq_false h]; decide)]; omega
theorem rl_rank {N i : Nat} {s W : Nat → Nat} (hi : i < ixB s N) : rkP (fun _ => true) s W N (rlB s (wS W N s) N i) = i := by
  have ⟨a, b⟩ := rl_spec (s := s) (w := wS W N s) N
  unfold rkP
  rw [rl_cnt (w := wS W N s)]
  have e : cntB (fun j => (true && ahB (wS W N s) (rlB s (wS W N s) N i) (rlB s (wS W N s) N j))) (ixB s N) = cntB (fun j => decide (j < i)) (ixB s N) := cntB_congr (fun j hj => by
    rw [Bool.true_and]
    rcases Nat.lt_trichotomy j i with g | g | g
    · rw [decide_eq_true g, b j i g hi]
    · subst g
      rw [decide_eq_false (Nat.lt_irrefl _)]
      cases c : ahB (wS W N s) (rlB s (wS W N s) N j) (rlB s (wS W N s) N j) with
      | false => rfl
      | true => have := ah_iff.mp c; omega
    · rw [decide_eq_false (by omega)]
      have d := ah_iff.mp (b i j g hj)
      cases c : ahB (wS W N s) (rlB s (wS W N s) N i) (rlB s (wS W N s) N j) with
      | false => rfl
      | true => have := ah_iff.mp c; omega)
  rw [e, cnt_below]
  omega
theorem rl_surj {N p : Nat} {s w : Nat → Nat} (hp : p < N) (hd : hdB s p = true) : ∃ j, j < ixB s N ∧ rlB s w N j = p := by
  have c := rl_cnt (s := s) (w := w) (fun q => decide (q = p)) N
  have pos : 0 < cntB (fun q => hdB s q && decide (q = p)) N := by
    refine Nat.pos_of_ne_zero (fun h => ?_)
    have := cnt0.mp h p hp
    rw [hd] at this
    simp at this
  rw [c] at pos
  cases e : fstB (fun j => decide (rlB s w N j = p)) (ixB s N) with
  | some j =>
    have ⟨j1, j2, _⟩ := fstB_some.mp e
    exact ⟨j, j1, of_decide_eq_true j2⟩
  | none =>
    have := cnt0.mpr (fstB_none.mp e)
    omega
theorem allC {C : Nat} : mkB (fun _ => true) C = 2 ^ C - 1 := by
  apply mask_ext
  intro i
  rw [mkB_bit, Nat.testBit_two_pow_sub_one, Bool.and_true]
theorem rank5 {F N i : Nat} {s X Y W : Nat → Nat} {cnt : Int32} {groupAt sets weights xs ys : Nat → Int32} (hF : 1000 ≤ F) (hN : N ≤ 24) (hW : ∀ i, i < N → W i ≤ 99) (h : SCALE N s X Y W cnt groupAt sets weights xs ys) (hi : i < ixB s N) :
    mX5_heaviest F (nI (2 ^ ixB s N - 1)) (nI i) cnt weights = some (nI (ixB s (rlB s (wS W N s) N i))) := by
  have ⟨a, b⟩ := rl_spec (s := s) (w := wS W N s) N
  have ixN := ix_lt (s := s) (p := N)
  have hv := heavyS (F := F) (P := fun _ => true) (Q := fun _ => true) hF hN hW h (fun p _ _ => rfl) (nI i)
  rw [allC] at hv
  have ⟨a1, a2⟩ := a i hi
  have ef : fstB (fun p => hdB s p && (true && decide (nI (rkP (fun _ => true) s W N p) = nI i))) N = some (rlB s (wS W N s) N i) := by
    refine fstB_some.mpr ⟨a1, ?_, fun q hq => ?_⟩
    · rw [a2, rl_rank hi]
      simp
    · cases hd : hdB s q with
      | false => rfl
      | true =>
        obtain ⟨j, j1, j2⟩ := rl_surj (w := wS W N s) (show q < N by omega) hd
        rw [Bool.true_and, Bool.true_and]
        refine decide_eq_false (fun r => ?_)
        rw [← j2, rl_rank j1] at r
        have := (nI_eq (by omega) (by omega)).mp r
        rw [this] at j2
        omega
  rw [ef] at hv
  exact hv
/-- the reference ranks the same -/
theorem ranks9 {F N : Nat} {s X Y W : Nat → Nat} {part w : Nat → Int32} (hF : 1000 ≤ F) (gd : GOOD N X Y W) (hw : ∀ i, i < N → w i = nI (W i)) (hS : PART N s) (h : ∀ p, p < N → part p = nI (s p)) (ranked : Nat → Int32) :
    ∃ t, loop (fun s12 : Int32 × Int32 × (Nat → Int32) => mX9_laysLabels_b12 F (nI N) w part s12.1 s12.2.1 s12.2.2) F ((0 : Int32), (0 : Int32), ranked) = some (nI (ixB s N), t) ∧ ∀ j, j < ixB s N → t j = nI (s (rlB s (wS W N s) N j)) := by
  have hN := gd.1
  have hW : ∀ i, i < N → W i ≤ 99 := fun i hi => (gd.2.2.1 i hi).2
  refine Exists.elim (lpI (body := fun s12 : Int32 × Int32 × (Nat → Int32) => mX9_laysLabels_b12 F (nI N) w part s12.1 s12.2.1 s12.2.2) (F := F) (fun k (t : Nat → Int32) => (nI k, nI (ixB s k), t)) (fun k t => ∀ j, j < ixB s k → t j = nI (s (rlB s (wS W N s) k j))) 0 N (fun t => (nI (ixB s N), t)) ranked (by omega) (s0 := ((0 : Int32), (0 : Int32), ranked)) rfl
    (fun j hj => by simp [ixB, cntB] at hj) (fun k t _ hk hI2 => ?_) (fun t _ => ?_) (by omega)) (fun t ht => ⟨t, ht⟩)
  · have f := isFirst9 (F := F) hF hN hS h hk
    have ixk := ix_lt (s := s) (p := k)
    have hle : ¬ nI N ≤ nI k := by rw [nI_leE (by omega) (by omega)]; omega
    cases hd : hdB s k with
    | false =>
      refine ⟨t, ?_, ?_⟩
      · unfold mX9_laysLabels_b12
        simp only []
        rw [if_neg hle, f, Option.bind_some, hd, if_pos (by rw [k0F]; trivial), nI_1, ix_succ, if_neg (by rw [hd]; decide)]
        rfl
      · rw [rl_f hd, ix_succ, if_neg (by rw [hd]; decide)]
        exact hI2
    | true =>
      have ⟨a, b⟩ := rl_spec (s := s) (w := wS W N s) k
      have ⟨s1, s2, s3⟩ := rp_spec (w := wS W N s) (R := rlB s (wS W N s) k) (p := k) (n := ixB s k)
      have wt : ∀ p, p < N → mX9_weightOf F (nI (s p)) (nI N) w = some (nI (wS W N s p)) := fun p hp => weight9 hF hN (by have := (part_24 hN hS hp).1; omega) hw
      have wb : ∀ p, wS W N s p ≤ 2376 := fun p => wtB_le hN hW
      have ins : ∃ u, loop (fun s36 : Int32 × (Nat → Int32) => mX9_laysLabels_b36 F (nI N) w part (nI k) s36.1 s36.2) F (nI (ixB s k), t) = some (nI (rpB (wS W N s) (rlB s (wS W N s) k) k (ixB s k)), u) ∧ gap1 (ixB s k) (fun j => nI (s (rlB s (wS W N s) k j))) (rpB (wS W N s) (rlB s (wS W N s) k) k (ixB s k)) u := by
        generalize rpB (wS W N s) (rlB s (wS W N s) k) k (ixB s k) = i0 at s1 s2 s3 ⊢
        generalize ixB s k = n at hI2 ixk a s1 s2 s3 ⊢
        generalize rlB s (wS W N s) k = R at hI2 a s2 s3 ⊢
        refine Exists.elim (lpI (body := fun s36 : Int32 × (Nat → Int32) => mX9_laysLabels_b36 F (nI N) w part (nI k) s36.1 s36.2) (F := F) (fun e (u : Nat → Int32) => (nI (n - e), u)) (fun e u => gap1 n (fun j => nI (s (R j))) (n - e) u) 0 (n - i0) (fun u => (nI i0, u)) t (by omega) (s0 := (nI n, t)) rfl
          (fun j hj => ⟨fun e => hI2 j e, fun e => by omega⟩) (fun e u _ he hg => ?_) (fun u hg => ?_) (by omega)) (fun u hu => ⟨u, hu.1, by have := hu.2; rw [show n - (n - i0) = i0 by omega] at this; exact this⟩)
        · have g1 := (hg (n - (e + 1)) (by omega)).1 (by omega)
          have q := s2 (n - (e + 1)) (by omega) (by omega)
          have ra := (a (n - (e + 1)) (by omega)).1
          have w1 := wt (R (n - (e + 1))) (by omega)
          have w2 := wt k hk
          have b1 := wb (R (n - (e + 1)))
          have b2 := wb k
          have st := gap1_step (by omega) hg (show n - e ≤ n by omega)
          rw [show n - e - 1 = n - (e + 1) by omega] at st
          refine ⟨upd u (n - e) (u (n - (e + 1))), ?_, st⟩
          have e1 : nI (n - e) - 1 = nI (n - (e + 1)) := nI_s1 (a := n - e) (by omega)
          simp only [] at g1
          unfold mX9_laysLabels_b36
          simp only []
          rw [if_neg (show ¬ nI (n - e) ≤ 0 by rw [nI_le0 (by omega)]; omega), e1, rdI_n (by omega) (by omega), Option.bind_some, Option.bind_some, g1, w1, Option.bind_some, rdI_n (by omega) (by omega), Option.bind_some, h k hk, w2, Option.bind_some, if_neg (show ¬ nI (wS W N s k) ≤ nI (wS W N s (R (n - (e + 1)))) by rw [nI_leE (by omega) (by omega)]; omega), wrI_n (by omega) (by omega), Option.bind_some, Option.bind_some]
        · rw [show n - (n - i0) = i0 by omega] at hg ⊢
          by_cases h0 : i0 = 0
          · subst h0
            unfold mX9_laysLabels_b36
            simp only []
            rw [if_pos (show nI 0 ≤ (0 : Int32) by decide +kernel)]
          · have g1 := (hg (i0 - 1) (by omega)).1 (by omega)
            have q := s3 (by omega)
            have ra := (a (i0 - 1) (by omega)).1
            have w1 := wt (R (i0 - 1)) (by omega)
            have w2 := wt k hk
            have b1 := wb (R (i0 - 1))
            have b2 := wb k
            simp only [] at g1
            unfold mX9_laysLabels_b36
            simp only []
            rw [if_neg (show ¬ nI i0 ≤ 0 by rw [nI_le0 (by omega)]; omega), nI_s1 (by omega), rdI_n (by omega) (by omega), Option.bind_some, Option.bind_some, g1, w1, Option.bind_some, rdI_n (by omega) (by omega), Option.bind_some, h k hk, w2, Option.bind_some, if_pos (show nI (wS W N s k) ≤ nI (wS W N s (R (i0 - 1))) by rw [nI_leE (by omega) (by omega)]; omega)]
      obtain ⟨u, eu, gu⟩ := ins
      refine ⟨upd u (rpB (wS W N s) (rlB s (wS W N s) k) k (ixB s k)) (nI (s k)), ?_, ?_⟩
      · unfold mX9_laysLabels_b12
        simp only []
        rw [if_neg hle, f, Option.bind_some, hd, if_neg (by rw [k0T]; exact id), eu, Option.bind_some, rdI_n (by omega) (by omega), Option.bind_some, h k hk, wrI_n (by omega) (by omega), Option.bind_some, Option.bind_some, nI_1, nI_1, ix_succ, if_pos hd]
      · rw [rl_t hd, ix_succ, if_pos hd]
        refine gap1_end (g := fun j => nI (s (insB (rlB s (wS W N s) k) (rpB (wS W N s) (rlB s (wS W N s) k) k (ixB s k)) k j))) gu s1 (fun j hj => ?_) ?_ (fun j h1 h2 => ?_)
        all_goals simp only [insB]
        · rw [if_pos hj]
        · rw [if_neg (by omega), if_pos trivial]
        · rw [if_neg (by omega), if_neg (by omega)]
  · unfold mX9_laysLabels_b12
    simp only []
    rw [if_pos (by rw [nI_leE (by omega) (by omega)]; omega)]
