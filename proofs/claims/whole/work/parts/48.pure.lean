/-! ===== PURE 39: best, the totals ===== -/
theorem nar_0 : vp_nar .boolean (0 : Int32) = 0 := by decide +kernel
theorem nar_1 : vp_nar .boolean (1 : Int32) = 1 := by decide +kernel
theorem wrZ_0 {n k : Nat} {f : Nat → Int32} (h : k < n) (hn : n ≤ 1000) : wrZ n f (nI k) (0 : Int32) = some (upd f k 0) := by
  have e := nI_toInt (n := k) (by omega)
  unfold wrZ
  rw [e, if_pos ⟨by omega, by omega⟩, nar_0]
  rfl
theorem wrZ_1 {n k : Nat} {f : Nat → Int32} (h : k < n) (hn : n ≤ 1000) : wrZ n f (nI k) (1 : Int32) = some (upd f k 1) := by
  have e := nI_toInt (n := k) (by omega)
  unfold wrZ
  rw [e, if_pos ⟨by omega, by omega⟩, nar_1]
  rfl
/-- a node that stands below join j -/
def NDL (N j c : Nat) : Prop := c < N ∨ ∃ i, i < j ∧ c = 100 + i
theorem nd_ndl {P Q : Nat → Nat} {N j p : Nat} (hp : p < N) : NDL N j (ndB P Q j p) := by
  rcases nd_or (P := P) (Q := Q) j p with ⟨a, b⟩ | ⟨i, a, b, c⟩
  · exact Or.inl (by omega)
  · exact Or.inr ⟨i, a, b⟩
def noA (X Y : Nat → Nat) (N j : Nat) : Nat := ndB (fP (KK X Y N)) (fQ (KK X Y N)) j (fP (KK X Y N) j)
def noB (X Y : Nat → Nat) (N j : Nat) : Nat := ndB (fP (KK X Y N)) (fQ (KK X Y N)) j (fQ (KK X Y N) j)
theorem noA_l {X Y : Nat → Nat} {N j : Nat} (hN : N ≤ 24) (hj : j < N - 1) : NDL N j (noA X Y N j) := nd_ndl (KK_lt hN hj).1
theorem noB_l {X Y : Nat → Nat} {N j : Nat} (hN : N ≤ 24) (hj : j < N - 1) : NDL N j (noB X Y N j) := nd_ndl (KK_lt hN hj).2
def mxI (a b : Int32) : Int32 := if a < b then b else a
def btB (X Y W : Nat → Nat) (N : Nat) : Nat → Nat → Int32
  | 0, x => lsP X Y W N x
  | d + 1, x => if 100 ≤ x then mxI (lsJ X Y W N (x - 100)) (btB X Y W N d (noA X Y N (x - 100)) + btB X Y W N d (noB X Y N (x - 100))) else lsP X Y W N x
theorem bt_fuel {X Y W : Nat → Nat} {N : Nat} (hN : N ≤ 24) : ∀ d e x, (x < N ∨ ∃ j, j < N - 1 ∧ j < d ∧ j < e ∧ x = 100 + j) → btB X Y W N d x = btB X Y W N e x := by
  intro d
  induction d with
  | zero =>
    intro e x h
    rcases h with h | ⟨j, h1, h2, h3, h4⟩
    · cases e with
      | zero => rfl
      | succ e => show lsP X Y W N x = if 100 ≤ x then _ else lsP X Y W N x; rw [if_neg (show ¬ 100 ≤ x by omega)]
    · omega
  | succ d ih =>
    intro e x h
    rcases h with h | ⟨j, h1, h2, h3, h4⟩
    · have l : btB X Y W N (d + 1) x = lsP X Y W N x := by show (if 100 ≤ x then _ else lsP X Y W N x) = _; rw [if_neg (show ¬ 100 ≤ x by omega)]
      rw [l]
      cases e with
      | zero => rfl
      | succ e => show lsP X Y W N x = if 100 ≤ x then _ else lsP X Y W N x; rw [if_neg (show ¬ 100 ≤ x by omega)]
    · cases e with
      | zero => omega
      | succ e =>
        have ej : x - 100 = j := by omega
        have f : ∀ c, NDL N j c → btB X Y W N d c = btB X Y W N e c := fun c hc => ih e c (by
          rcases hc with a | ⟨i, a, b⟩
          · exact Or.inl a
          · exact Or.inr ⟨i, by omega, by omega, by omega, b⟩)
        show (if 100 ≤ x then mxI (lsJ X Y W N (x - 100)) (btB X Y W N d (noA X Y N (x - 100)) + btB X Y W N d (noB X Y N (x - 100))) else lsP X Y W N x) = if 100 ≤ x then mxI (lsJ X Y W N (x - 100)) (btB X Y W N e (noA X Y N (x - 100)) + btB X Y W N e (noB X Y N (x - 100))) else lsP X Y W N x
        rw [ej, f _ (noA_l hN h1), f _ (noB_l hN h1)]
/-- the most that a node and what is in it can last -/
def btV (X Y W : Nat → Nat) (N x : Nat) : Int32 := btB X Y W N 24 x
def btS (X Y W : Nat → Nat) (N j : Nat) : Int32 := btV X Y W N (noA X Y N j) + btV X Y W N (noB X Y N j)
theorem btV_P {X Y W : Nat → Nat} {N p : Nat} (hN : N ≤ 24) (hp : p < N) : btV X Y W N p = lsP X Y W N p := (bt_fuel hN 24 0 p (Or.inl hp)).trans rfl
theorem btV_J {X Y W : Nat → Nat} {N j : Nat} (hN : N ≤ 24) (hj : j < N - 1) : btV X Y W N (100 + j) = mxI (lsJ X Y W N j) (btS X Y W N j) := by
  have h : btB X Y W N (23 + 1) (100 + j) = if 100 ≤ 100 + j then mxI (lsJ X Y W N (100 + j - 100)) (btB X Y W N 23 (noA X Y N (100 + j - 100)) + btB X Y W N 23 (noB X Y N (100 + j - 100))) else lsP X Y W N (100 + j) := rfl
  have f : ∀ c, NDL N j c → btB X Y W N 23 c = btB X Y W N 24 c := fun c hc => bt_fuel hN 23 24 c (by
    rcases hc with a | ⟨i, a, b⟩
    · exact Or.inl a
    · exact Or.inr ⟨i, by omega, by omega, by omega, b⟩)
  rw [if_pos (show 100 ≤ 100 + j by omega), Nat.add_sub_cancel_left, f _ (noA_l hN hj), f _ (noB_l hN hj)] at h
  exact h
theorem hun_sub {j : Nat} : nI (100 + j) - 100 = nI j := by rw [c100, pk_sub (by omega)]; congr 1; omega
theorem hun_le {j : Nat} (hj : j < 1000) : (100 : Int32) ≤ nI (100 + j) := by rw [c100, nI_leE (by omega) (by omega)]; omega
theorem hun_nle {p : Nat} (hp : p < 100) : ¬ (100 : Int32) ≤ nI p := by rw [c100, nI_leE (by omega) (by omega)]; omega
theorem bestOf9 {F N : Nat} {X Y W : Nat → Nat} {aj ap first made one other second wide w : Nat → Int32} (hF : 5000 ≤ F) (hN : N ≤ 24) (hI : IN N X Y) (h : TR9 X Y N aj ap first made one other second wide) (hw : ∀ i, i < N → w i = nI (W i)) :
    ∀ d x, (x < N ∨ ∃ j, j < N - 1 ∧ j < d ∧ x = 100 + j) → mX9_bestOf F (d + 1) (nI x) (nI N) aj ap made one other w wide = some (btV X Y W N x) := by
  intro d
  induction d with
  | zero =>
    intro x hx
    rcases hx with hx | ⟨j, _, hj, _⟩
    · rw [mX9_bestOf, if_neg (hun_nle (by omega)), lastsP9 hF hN hI h hw hx, Option.bind_some, btV_P hN hx]
    · omega
  | succ d ih =>
    intro x hx
    rcases hx with hx | ⟨j, h1, h2, rfl⟩
    · rw [mX9_bestOf, if_neg (hun_nle (by omega)), lastsP9 hF hN hI h hw hx, Option.bind_some, btV_P hN hx]
    · have a := h.1 j h1
      have f : ∀ c, NDL N j c → mX9_bestOf F (d + 1) (nI c) (nI N) aj ap made one other w wide = some (btV X Y W N c) := fun c hc => ih c (by
        rcases hc with a | ⟨i, a, b⟩
        · exact Or.inl a
        · exact Or.inr ⟨i, by omega, by omega, b⟩)
      have o1 : one j = nI (noA X Y N j) := a.2.2.2.1
      have o2 : other j = nI (noB X Y N j) := a.2.2.2.2.1
      rw [mX9_bestOf, if_pos (hun_le (by omega)), hun_sub, rdI_n (by omega) (by omega), Option.bind_some, o1, f _ (noA_l hN h1), Option.bind_some, rdI_n (by omega) (by omega), Option.bind_some, o2, f _ (noB_l hN h1), Option.bind_some, Option.bind_some, lastsJ9 hF hN hI h hw h1, Option.bind_some, Option.bind_some, btV_J hN h1]
      rfl
theorem joP (F : Nat) {p : Nat} (hp : p < 100) : mX2_joinOf F (nI p) = some (-1) := by
  unfold mX2_joinOf
  rw [if_pos (show nI p < (100 : Int32) by rw [c100, nI_ltE (by omega) (by omega)]; omega)]
theorem joJ (F : Nat) {j : Nat} (hj : j < 24) : mX2_joinOf F (nI (100 + j)) = some (nI j) := by
  unfold mX2_joinOf
  rw [if_neg (show ¬ nI (100 + j) < (100 : Int32) by rw [c100, nI_ltE (by omega) (by omega)]; omega), if_neg (show ¬ (124 : Int32) ≤ nI (100 + j) by rw [c124, nI_leE (by omega) (by omega)]; omega), hun_sub]
theorem total1 {F N k c : Nat} {X Y W : Nat → Nat} {aparts fs firsts ja os parts pa roots seconds ws totals : Nat → Int32} {pairs : Nat → Int64} (hF : 1000 ≤ F) (hN : N ≤ 24) (h : TR2 X Y N aparts fs firsts ja os parts pa roots seconds pairs) (hw : ∀ i, i < N → ws i = nI (W i)) (hk : k ≤ N - 1) (hT : ∀ i, i < k → totals i = btV X Y W N (100 + i)) (hc : NDL N k c) :
    mX1_totalOf F (nI c) (nI (N - 1)) (nI N) totals ja parts ws pa roots = some (btV X Y W N c) := by
  unfold mX1_totalOf
  rcases hc with hc | ⟨i, a, rfl⟩
  · rw [joP F (by omega), Option.bind_some, if_pos rfl, lastsP2 hF hN h hw hc, Option.bind_some, btV_P hN hc]
  · rw [joJ F (by omega), Option.bind_some, if_neg (by rw [nI_m1 (by omega)]; exact id), rdI_n (by omega) (by omega), Option.bind_some, hT i a]
theorem sides1 {F N k j : Nat} {X Y W : Nat → Nat} {aparts fs firsts ja os parts pa roots seconds ws totals : Nat → Int32} {pairs : Nat → Int64} (hF : 1000 ≤ F) (hN : N ≤ 24) (h : TR2 X Y N aparts fs firsts ja os parts pa roots seconds pairs) (hw : ∀ i, i < N → ws i = nI (W i)) (hk : k ≤ N - 1) (hj : j ≤ k) (hj2 : j < N - 1) (hT : ∀ i, i < k → totals i = btV X Y W N (100 + i)) :
    mX1_sidesTotal F (nI j) (nI (N - 1)) (nI N) totals fs ja os parts ws pa roots = some (btS X Y W N j) := by
  have a := h.1 j hj2
  have o1 : fs j = nI (noA X Y N j) := a.2.1
  have o2 : os j = nI (noB X Y N j) := a.2.2.2.1
  have f : ∀ c, NDL N j c → NDL N k c := fun c hc => by
    rcases hc with a | ⟨i, a, b⟩
    · exact Or.inl a
    · exact Or.inr ⟨i, by omega, b⟩
  unfold mX1_sidesTotal
  rw [rdI_n (by omega) (by omega), Option.bind_some, o1, total1 hF hN h hw hk hT (f _ (noA_l hN hj2)), Option.bind_some, rdI_n (by omega) (by omega), Option.bind_some, o2, total1 hF hN h hw hk hT (f _ (noB_l hN hj2)), Option.bind_some]
  rfl
/-- whether a JOIN itself is as good as its sides -/
def whB (X Y W : Nat → Nat) (N j : Nat) : Int32 := if lsJ X Y W N j < btS X Y W N j then 0 else 1
theorem j91 {F N k : Nat} (hN : N ≤ 24) (hk : k < N - 1) {v : Int32} (hv : v = 0 ∨ v = 1) (op to wh : Nat → Int32) :
    mX1_choose_j91 F (nI (N - 1)) (nI k) v (nI k) op to wh = some (.inl (nI (k + 1), upd op k (if k = N - 2 then 1 else 0), to, upd wh k v)) := by
  have n1 : nI (N - 1) - 1 = nI (N - 2) := nI_s1 (by omega)
  have w : wrZ 24 wh (nI k) v = some (upd wh k v) := by
    rcases hv with rfl | rfl
    · exact wrZ_0 (by omega) (by omega)
    · exact wrZ_1 (by omega) (by omega)
  unfold mX1_choose_j91
  rw [w, Option.bind_some, n1]
  by_cases q : k = N - 2
  · rw [if_pos (congrArg nI q), if_pos q, wrZ_1 (by omega) (by omega), Option.bind_some, nI_1]
  · rw [if_neg (fun g => q ((nI_eq (by omega) (by omega)).mp g)), if_neg q, wrZ_0 (by omega) (by omega), Option.bind_some, nI_1]
theorem tot38 {F N : Nat} {X Y W : Nat → Nat} {aparts fs firsts ja os parts pa roots seconds ws : Nat → Int32} {pairs : Nat → Int64} (hF : 1000 ≤ F) (hN : N ≤ 24) (h : TR2 X Y N aparts fs firsts ja os parts pa roots seconds pairs) (hw : ∀ i, i < N → ws i = nI (W i)) (op0 to0 wh0 : Nat → Int32) :
    ∃ t : (Nat → Int32) × (Nat → Int32) × (Nat → Int32), loop (fun s38 : Int32 × (Nat → Int32) × (Nat → Int32) × (Nat → Int32) => mX1_choose_b38 F (nI (N - 1)) (nI N) fs ja os parts ws pa roots s38.1 s38.2.1 s38.2.2.1 s38.2.2.2) F ((0 : Int32), op0, to0, wh0) = some t ∧
      ∀ i, i < N - 1 → t.1 i = (if i = N - 2 then 1 else 0) ∧ t.2.1 i = btV X Y W N (100 + i) ∧ t.2.2 i = whB X Y W N i := by
  refine lpI (body := fun s38 : Int32 × (Nat → Int32) × (Nat → Int32) × (Nat → Int32) => mX1_choose_b38 F (nI (N - 1)) (nI N) fs ja os parts ws pa roots s38.1 s38.2.1 s38.2.2.1 s38.2.2.2) (F := F) (fun k (t : (Nat → Int32) × (Nat → Int32) × (Nat → Int32)) => (nI k, t)) (fun k t => ∀ i, i < k → t.1 i = (if i = N - 2 then 1 else 0) ∧ t.2.1 i = btV X Y W N (100 + i) ∧ t.2.2 i = whB X Y W N i) 0 (N - 1) (fun t => t) (op0, to0, wh0) (by omega) (s0 := ((0 : Int32), op0, to0, wh0)) rfl
    (fun i hi => by omega) (fun k t _ hk hI2 => ?_) (fun t _ => ?_) (by omega)
  · have e1 := lastsJ2 (W := W) hF hN h hw hk
    have e2 := sides1 (W := W) hF hN h hw (show k ≤ N - 1 by omega) (Nat.le_refl k) hk (fun i hi => (hI2 i hi).2.1)
    have eJ := btV_J (X := X) (Y := Y) (W := W) hN hk
    have e100 : (100 : Int32) + nI k = nI (100 + k) := by rw [c100, nI_add]
    have up : ∀ i, i < k + 1 → upd t.1 k (if k = N - 2 then 1 else 0) i = (if i = N - 2 then 1 else 0) ∧ upd t.2.1 k (btV X Y W N (100 + k)) i = btV X Y W N (100 + i) ∧ upd t.2.2 k (whB X Y W N k) i = whB X Y W N i := fun i hi =>
      ⟨upd_all (g := fun i => if i = N - 2 then 1 else 0) (fun j hj => (hI2 j hj).1) rfl i hi, upd_all (g := fun i => btV X Y W N (100 + i)) (fun j hj => (hI2 j hj).2.1) rfl i hi, upd_all (g := fun i => whB X Y W N i) (fun j hj => (hI2 j hj).2.2) rfl i hi⟩
    have emx : (if lsJ X Y W N k < btS X Y W N k then btS X Y W N k else lsJ X Y W N k) = btV X Y W N (100 + k) := eJ.symm
    refine ⟨(upd t.1 k (if k = N - 2 then 1 else 0), upd t.2.1 k (btV X Y W N (100 + k)), upd t.2.2 k (whB X Y W N k)), ?_, up⟩
    unfold mX1_choose_b38
    simp only []
    rw [if_neg (show ¬ nI (N - 1) ≤ nI k by rw [nI_leE (by omega) (by omega)]; omega), e100, e1, Option.bind_some, e2, Option.bind_some, Option.bind_some, emx, wrI_n (by omega) (by omega), Option.bind_some]
    unfold whB
    by_cases s : lsJ X Y W N k < btS X Y W N k
    · rw [if_pos s, if_pos s, j91 hN hk (Or.inl rfl)]
    · rw [if_neg s, if_neg s, j91 hN hk (Or.inr rfl)]
  · unfold mX1_choose_b38
    simp only []
    rw [if_pos (show nI (N - 1) ≤ nI (N - 1) by rw [nI_leE (by omega) (by omega)]; omega)]
