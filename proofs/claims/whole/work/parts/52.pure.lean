/-! ===== PURE 43: best, the class's answers ===== -/
theorem clr12 {F N : Nat} (hF : 1000 ≤ F) (hN : N ≤ 24) (g : Nat → Int32) : ∃ t, loop (fun s12 : Int32 × (Nat → Int32) => mX1_choose_b12 F (nI N) s12.1 s12.2) F ((0 : Int32), g) = some t ∧ ∀ l, l < N → t l = -1 := by
  refine lpI (body := fun s12 : Int32 × (Nat → Int32) => mX1_choose_b12 F (nI N) s12.1 s12.2) (F := F) (fun k (t : Nat → Int32) => (nI k, t)) (fun k t => ∀ l, l < k → t l = -1) 0 N (fun t => t) g (by omega) (s0 := ((0 : Int32), g)) rfl
    (fun l hl => by omega) (fun k t _ hk hI2 => ?_) (fun t _ => ?_) (by omega)
  · refine ⟨upd t k (-1), ?_, upd_all (g := fun _ => -1) hI2 rfl⟩
    unfold mX1_choose_b12
    simp only []
    rw [if_neg (show ¬ nI N ≤ nI k by rw [nI_leE (by omega) (by omega)]; omega), wrI_n (by omega) (by omega), Option.bind_some, nI_1]
  · unfold mX1_choose_b12
    simp only []
    rw [if_pos (show nI N ≤ nI N by rw [nI_leE (by omega) (by omega)]; omega)]
/-- the node that all stand in at first -/
def rootN (N : Nat) : Nat := if N = 1 then 0 else 100 + (N - 2)
theorem chooseN {F N : Nat} {X Y W : Nat → Nat} {aparts fs firsts ja os parts pa roots seconds ws : Nat → Int32} {pairs : Nat → Int64} (hF : 1000 ≤ F) (hN : N ≤ 24) (h1 : 1 ≤ N) (h : TR2 X Y N aparts fs firsts ja os parts pa roots seconds pairs) (hw : ∀ i, i < N → ws i = nI (W i)) (tot cnt : Int32) (nbl op totals wh : Nat → Int32) :
    ∃ r, mX1_choose F tot cnt (nI (N - 1)) (nI N) nbl op totals wh fs ja os parts ws pa roots = some r ∧ (∀ l, l < N → r.2.2.1 l = slotB X Y W N (N - 1) l) ∧ r.1 = CN N r.2.2.1 ∧ r.2.1 = btV X Y W N (rootN N) := by
  obtain ⟨g1, e1, k1⟩ := clr12 (F := F) hF hN nbl
  obtain ⟨t, e2, k2⟩ := tot38 (W := W) hF hN h hw op totals wh
  unfold mX1_choose rootN
  rw [e1, Option.bind_some, e2, Option.bind_some]
  by_cases q : N = 1
  · subst q
    have e : snN X Y 1 0 = 2 ^ 0 := sn_P (by omega)
    have z : CN 1 g1 = 0 := by
      unfold CN
      show nI (cntB (fun l => !decide (g1 l = -1)) 0 + (if (!decide (g1 0 = -1)) = true then 1 else 0)) = 0
      rw [k1 0 (by omega)]
      rfl
    have p := put1 (g := g1) hF hN h (x := 0) (Or.inl (by omega)) (by rw [e]; decide) (by rw [e]; decide) (by rw [e, lo_p2 (by omega)]; omega) (by rw [e, lo_p2 (by omega)]; exact k1 0 (by omega))
    rw [z, e, lo_p2 (by omega)] at p
    rw [if_pos (show nI (1 - 1) ≤ 0 by decide +kernel), if_neg (show ¬ nI 1 ≤ 0 by decide +kernel), show (0 : Int32) = nI 0 from rfl]
    refine ⟨_, by rw [show nI 0 = (0 : Int32) from rfl] at p ⊢; rw [p, Option.bind_some], fun l hl => ?_, rfl, ?_⟩
    · have l0 : l = 0 := by omega
      subst l0
      show upd g1 0 (nI 0) 0 = slotB X Y W 1 (1 - 1) 0
      have f0 : fT X Y W 1 (1 - 1) 0 = 0 := rfl
      unfold slotB
      rw [f0, e, lo_p2 (by omega), if_pos ⟨rfl, Or.inl (by omega)⟩]
      exact if_pos rfl
    · rw [if_pos rfl, btV_P hN (by omega)]
      rfl
  · obtain ⟨r, e3, s1, s2, _⟩ := choose1 (W := W) hF hN (by omega) h (fun i hi => (k2 i hi).2.2) k1 (fun i hi => (k2 i hi).1)
    rw [if_neg (show ¬ nI (N - 1) ≤ 0 by rw [nI_le0 (by omega)]; omega), nI_s1 (by omega), rdI_n (by omega) (by omega), Option.bind_some, e3, Option.bind_some]
    refine ⟨_, rfl, s1, s2, ?_⟩
    rw [if_neg q]
    exact (k2 (N - 1 - 1) (by omega)).2.1
/-- the i-th slot that holds a node -/
theorem nth1 {F N : Nat} (hF : 1000 ≤ F) (hN : N ≤ 24) (i : Int32) (g : Nat → Int32) :
    mX1_nth F i (nI N) g = some (match fstB (fun k => !decide (g k = -1) && decide (nI (cntB (fun l => !decide (g l = -1)) k) = i)) N with | some k => g k | none => -1) := by
  unfold mX1_nth
  refine lpS (fun k => (nI (cntB (fun l => !decide (g l = -1)) k), nI k)) (fun k => !decide (g k = -1) && decide (nI (cntB (fun l => !decide (g l = -1)) k) = i)) N (fun k => g k) (-1) rfl (fun k hk _ => ?_) (fun _ => ?_) (by omega)
  · have c : cntB (fun l => !decide (g l = -1)) (k + 1) = cntB (fun l => !decide (g l = -1)) k + (if (!decide (g k = -1)) = true then 1 else 0) := rfl
    rw [c]
    generalize cntB (fun l => !decide (g l = -1)) k = m
    unfold mX1_nth_b5
    simp only []
    rw [if_neg (show ¬ nI N ≤ nI k by rw [nI_leE (by omega) (by omega)]; omega), rdI_n (by omega) (by omega), Option.bind_some, nI_1]
    by_cases q : g k = -1
    · rw [if_pos q, decide_eq_true q]
      rfl
    · rw [if_neg q, decide_eq_false q]
      by_cases q2 : nI m = i
      · rw [if_pos q2, Option.bind_some, decide_eq_true q2]
        rfl
      · rw [if_neg q2, Option.bind_some, decide_eq_false q2, nI_1]
        rfl
  · unfold mX1_nth_b5
    simp only []
    rw [if_pos (show nI N ≤ nI N by rw [nI_leE (by omega) (by omega)]; omega)]
