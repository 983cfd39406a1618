/-! ===== PURE 41: best, the class's choice ===== -/
def CN (N : Nat) (g : Nat → Int32) : Int32 := nI (cntB (fun l => !decide (g l = -1)) N)
theorem CN_upd {N l : Nat} {g : Nat → Int32} {x : Nat} (hl : l < N) (hx : x < 1000) (h : g l = -1) : CN N (upd g l (nI x)) = CN N g + 1 := by
  have e := cnt_drop (p := fun j => !decide (upd g l (nI x) j = -1)) (q := fun j => !decide (g j = -1)) (v := l) (by show (!decide (upd g l (nI x) l = -1)) = true; rw [show upd g l (nI x) l = nI x from if_pos rfl, decide_eq_false (by rw [nI_m1 (by omega)]; exact id)]; rfl) (by show (!decide (g l = -1)) = false; rw [h]; rfl) (fun j hj => by show (!decide (upd g l (nI x) j = -1)) = _; rw [show upd g l (nI x) j = g j from if_neg hj]) N
  rw [if_pos hl] at e
  unfold CN
  rw [e, nI_1]
def snN (X Y : Nat → Nat) (N x : Nat) : Nat := snB (fP (KK X Y N)) (fQ (KK X Y N)) x
def spB (X Y W : Nat → Nat) (N j : Nat) : Bool := decide (lsJ X Y W N j < btS X Y W N j)
def fT (X Y W : Nat → Nat) (N t l : Nat) : Nat := frB (spB X Y W N) (fP (KK X Y N)) (fQ (KK X Y N)) (N - 1) t l
theorem setOfN {F N x : Nat} {X Y : Nat → Nat} {aparts fs firsts ja os parts pa roots seconds : Nat → Int32} {pairs : Nat → Int64} (hN : N ≤ 24) (h : TR2 X Y N aparts fs firsts ja os parts pa roots seconds pairs) (hx : NDL N (N - 1) x) : mX2_setOf F (nI x) parts = some (nI (snN X Y N x)) := by
  unfold mX2_setOf snN
  rcases hx with hx | ⟨j, hj, rfl⟩
  · rw [joP F (by omega), Option.bind_some, if_pos rfl, sn_P (by omega), nI_bit (by omega)]
  · rw [joJ F (by omega), Option.bind_some, if_neg (by rw [nI_m1 (by omega)]; exact id), rdI_n (by omega) (by omega), Option.bind_some, sn_J, (h.1 j hj).2.2.2.2.1]
theorem put1 {F N x : Nat} {X Y : Nat → Nat} {aparts fs firsts ja os parts pa roots seconds g : Nat → Int32} {pairs : Nat → Int64} (hF : 1000 ≤ F) (hN : N ≤ 24) (h : TR2 X Y N aparts fs firsts ja os parts pa roots seconds pairs) (hx : NDL N (N - 1) x) (hm : snN X Y N x < 2 ^ 24) (h0 : snN X Y N x ≠ 0) (hl : lo (snN X Y N x) < N) (hg : g (lo (snN X Y N x)) = -1) :
    mX1_put F (nI x) (CN N g) g parts = some (CN N (upd g (lo (snN X Y N x)) (nI x)), upd g (lo (snN X Y N x)) (nI x)) := by
  have x1000 : x < 1000 := by rcases hx with hx | ⟨j, hj, rfl⟩ <;> omega
  unfold mX1_put
  rw [setOfN hN h hx, Option.bind_some, least6s hF hm h0, Option.bind_some, if_neg (show ¬ nI (lo (snN X Y N x)) < 0 by rw [nI_lt0 (by omega)]; exact id), if_neg (show ¬ (24 : Int32) ≤ nI (lo (snN X Y N x)) by rw [c24, nI_leE (by omega) (by omega)]; omega), wrI_n (by omega) (by omega), Option.bind_some, Option.bind_some, CN_upd hl x1000 hg]
def gO (c : Nat) (g : Nat → Int32) : Nat → Int32 := if c < 100 then upd g c (nI c) else g
def oO (c : Nat) (op : Nat → Int32) : Nat → Int32 := if c < 100 then op else upd op (c - 100) 1
theorem gO_ne {c l : Nat} {g : Nat → Int32} (h : c < 100 → c ≠ l) : gO c g l = g l := by
  unfold gO
  by_cases q : c < 100
  · rw [if_pos q]; exact if_neg (fun e => h q e.symm)
  · rw [if_neg q]
theorem gO_eq {c : Nat} {g : Nat → Int32} (h : c < 100) : gO c g c = nI c := by
  unfold gO
  rw [if_pos h]
  exact if_pos rfl
theorem oO_eq {i : Nat} {op : Nat → Int32} : oO (100 + i) op i = 1 := by
  unfold oO
  rw [if_neg (by omega), Nat.add_sub_cancel_left]
  exact if_pos rfl
theorem oO_ne {c i : Nat} {op : Nat → Int32} (h : c ≠ 100 + i) : oO c op i = op i := by
  unfold oO
  by_cases q : c < 100
  · rw [if_pos q]
  · rw [if_neg q]; exact if_neg (by omega)
theorem lo_p2 {p : Nat} (hp : p < 24) : lo (2 ^ p) = p := lo_uniq (Nat.pow_lt_pow_right (by omega) hp) (by rw [Nat.testBit_two_pow]; simp) (fun i hi => by rw [Nat.testBit_two_pow]; exact decide_eq_false (by omega))
theorem open1 {F N c : Nat} {X Y : Nat → Nat} {aparts fs firsts ja os parts pa roots seconds g op : Nat → Int32} {pairs : Nat → Int64} (hF : 1000 ≤ F) (hN : N ≤ 24) (h : TR2 X Y N aparts fs firsts ja os parts pa roots seconds pairs) (hx : NDL N (N - 1) c) (hg : c < 100 → g c = -1) :
    mX1_openNode F (nI c) (CN N g) g op parts = some (CN N (gO c g), gO c g, oO c op) := by
  have hx2 := hx
  unfold mX1_openNode gO oO
  rcases hx with hx | ⟨j, hj, rfl⟩
  · have e : snN X Y N c = 2 ^ c := sn_P (by omega)
    have p := put1 (g := g) hF hN h hx2 (by rw [e]; exact Nat.pow_lt_pow_right (by omega) (by omega)) (by rw [e]; exact Nat.ne_of_gt (Nat.two_pow_pos c)) (by rw [e, lo_p2 (by omega)]; exact hx) (by rw [e, lo_p2 (by omega)]; exact hg (by omega))
    rw [e, lo_p2 (by omega)] at p
    rw [joP F (by omega), Option.bind_some, if_pos rfl, p, Option.bind_some, if_pos (by omega), if_pos (by omega)]
  · rw [joJ F (by omega), Option.bind_some, if_neg (by rw [nI_m1 (by omega)]; exact id), wrZ_1 (by omega) (by omega), Option.bind_some, if_neg (by omega), if_neg (by omega), Nat.add_sub_cancel_left]
def slotB (X Y W : Nat → Nat) (N t l : Nat) : Int32 := if lo (snN X Y N (fT X Y W N t l)) = l ∧ (fT X Y W N t l < 100 ∨ 100 + (N - 1 - t) ≤ fT X Y W N t l) then nI (fT X Y W N t l) else -1
def SEL (X Y W : Nat → Nat) (N t : Nat) (r : Int32 × (Nat → Int32) × (Nat → Int32)) : Prop :=
  (∀ l, l < N → r.2.1 l = slotB X Y W N t l) ∧ r.1 = CN N r.2.1 ∧ ∀ i, i < N - 1 - t → (r.2.2 i = 1 ∧ ∃ l, l < N ∧ fT X Y W N t l = 100 + i) ∨ (r.2.2 i = 0 ∧ ∀ l, l < N → fT X Y W N t l ≠ 100 + i)
/-- a join that splits makes room for its two sides -/
theorem sel_split {X Y W : Nat → Nat} {N t k : Nat} {r : Int32 × (Nat → Int32) × (Nat → Int32)} (hN : N ≤ 24) (hk : k < N - 1) (ht : N - 1 - t = k + 1) (h : SEL X Y W N t r) (hs : spB X Y W N k = true) (hr : ∃ l, l < N ∧ fT X Y W N t l = 100 + k) :
    (noA X Y N k < 100 → r.2.1 (noA X Y N k) = -1) ∧ (noB X Y N k < 100 → gO (noA X Y N k) r.2.1 (noB X Y N k) = -1) ∧
    SEL X Y W N (t + 1) (CN N (gO (noB X Y N k) (gO (noA X Y N k) r.2.1)), gO (noB X Y N k) (gO (noA X Y N k) r.2.1), oO (noB X Y N k) (oO (noA X Y N k) r.2.2)) := by
  obtain ⟨hg, hc, ho⟩ := h
  obtain ⟨l0, hl0, f0⟩ := hr
  have hK : ∀ i, i < N - 1 → fP (KK X Y N) i < N ∧ fQ (KK X Y N) i < N := fun i hi => KK_lt hN hi
  have hKk : ∀ i, i < k → fP (KK X Y N) i < N ∧ fQ (KK X Y N) i < N := fun i hi => hK i (by omega)
  have ⟨hP, hQ⟩ := hK k hk
  have hS := sm_part (P := fP (KK X Y N)) (Q := fQ (KK X Y N)) (N := N) k hKk
  have fa := fr_all (sp := spB X Y W N) hN hK t (by omega)
  have E1 : ∀ l, l < N → fT X Y W N t l = 100 + k → (pmB (fP (KK X Y N)) (fQ (KK X Y N)) k).testBit l = true := fun l hl e => by
    have m := (fa l hl).2.1
    rw [show frB (spB X Y W N) (fP (KK X Y N)) (fQ (KK X Y N)) (N - 1) t l = 100 + k from e, sn_J] at m
    exact m
  have E2 : ∀ l, l < N → (pmB (fP (KK X Y N)) (fQ (KK X Y N)) k).testBit l = true → fT X Y W N t l = 100 + k := fun l hl m => by
    have c := (fa l0 hl0).2.2 l hl
    rw [show frB (spB X Y W N) (fP (KK X Y N)) (fQ (KK X Y N)) (N - 1) t l0 = 100 + k from f0, sn_J] at c
    exact c m
  have stp : ∀ q, fT X Y W N (t + 1) q = if fT X Y W N t q = 100 + k ∧ spB X Y W N k = true then ndB (fP (KK X Y N)) (fQ (KK X Y N)) k q else fT X Y W N t q := fun q => by
    have : k = N - 1 - 1 - t := by omega
    rw [this]
    rfl
  have fY : ∀ l, l < N → (pmB (fP (KK X Y N)) (fQ (KK X Y N)) k).testBit l = true → fT X Y W N (t + 1) l = ndB (fP (KK X Y N)) (fQ (KK X Y N)) k l := fun l hl m => by rw [stp, if_pos ⟨E2 l hl m, hs⟩]
  have fN : ∀ l, l < N → ¬ (pmB (fP (KK X Y N)) (fQ (KK X Y N)) k).testBit l = true → fT X Y W N (t + 1) l = fT X Y W N t l := fun l hl m => by rw [stp, if_neg (fun q => m (E1 l hl q.1))]
  have gY : ∀ l, l < N → (pmB (fP (KK X Y N)) (fQ (KK X Y N)) k).testBit l = true → r.2.1 l = -1 := fun l hl m => by
    rw [hg l hl]
    unfold slotB
    rw [E2 l hl m, if_neg (fun q => by omega)]
  have pA := pm_a hS hP
  have pB := pm_b hS hQ
  have aA : noA X Y N k < 100 → noA X Y N k = fP (KK X Y N) k := fun q => by
    rcases nd_or (P := fP (KK X Y N)) (Q := fQ (KK X Y N)) k (fP (KK X Y N) k) with ⟨a, _⟩ | ⟨i, _, b, _⟩
    · exact a
    · have : noA X Y N k = 100 + i := b
      omega
  have aB : noB X Y N k < 100 → noB X Y N k = fQ (KK X Y N) k := fun q => by
    rcases nd_or (P := fP (KK X Y N)) (Q := fQ (KK X Y N)) k (fQ (KK X Y N) k) with ⟨a, _⟩ | ⟨i, _, b, _⟩
    · exact a
    · have : noB X Y N k = 100 + i := b
      omega
  have AB : noA X Y N k ≠ noB X Y N k := fun e => by
    have a : snN X Y N (noA X Y N k) = smB (fP (KK X Y N)) (fQ (KK X Y N)) k (fP (KK X Y N) k) := sn_nd (by omega)
    have b : snN X Y N (noB X Y N k) = smB (fP (KK X Y N)) (fQ (KK X Y N)) k (fQ (KK X Y N) k) := sn_nd (by omega)
    rw [e, b] at a
    exact (tree_parts (X := X) (Y := Y) hN (show k ≤ N - 1 by omega)).2 hk a.symm
  have side : ∀ l, l < N → (pmB (fP (KK X Y N)) (fQ (KK X Y N)) k).testBit l = true → ndB (fP (KK X Y N)) (fQ (KK X Y N)) k l = noA X Y N k ∨ ndB (fP (KK X Y N)) (fQ (KK X Y N)) k l = noB X Y N k := fun l hl m => by
    have e : pmB (fP (KK X Y N)) (fQ (KK X Y N)) k = smB (fP (KK X Y N)) (fQ (KK X Y N)) k (fP (KK X Y N) k) ||| smB (fP (KK X Y N)) (fQ (KK X Y N)) k (fQ (KK X Y N) k) := rfl
    rw [e, or_bit, Bool.or_eq_true] at m
    rcases m with m | m
    · exact Or.inl (nd_same k hKk _ l hP hl m).symm
    · exact Or.inr (nd_same k hKk _ l hQ hl m).symm
  refine ⟨fun q => ?_, fun q => ?_, fun l hl => ?_, rfl, fun i hi => ?_⟩
  · rw [aA q]; exact gY _ hP pA
  · rw [gO_ne (fun _ => AB), aB q]; exact gY _ hQ pB
  · show gO (noB X Y N k) (gO (noA X Y N k) r.2.1) l = slotB X Y W N (t + 1) l
    unfold slotB
    by_cases m : (pmB (fP (KK X Y N)) (fQ (KK X Y N)) k).testBit l = true
    · rw [fY l hl m]
      rcases nd_or (P := fP (KK X Y N)) (Q := fQ (KK X Y N)) k l with ⟨a, b⟩ | ⟨i, i1, b, _⟩
      · rw [a, if_pos ⟨by unfold snN; rw [sn_P (by omega), lo_p2 (by omega)], Or.inl (by omega)⟩]
        have sd := side l hl m
        rw [a] at sd
        by_cases qB : l = noB X Y N k
        · have e := gO_eq (c := noB X Y N k) (g := gO (noA X Y N k) r.2.1) (by omega)
          rw [← qB] at e ⊢
          exact e
        · have qA : l = noA X Y N k := sd.resolve_right qB
          rw [gO_ne (fun _ e => qB e.symm)]
          have e := gO_eq (c := noA X Y N k) (g := r.2.1) (by omega)
          rw [← qA] at e ⊢
          exact e
      · rw [b, if_neg (fun q => by omega), gO_ne (fun q e => ?_), gO_ne (fun q e => ?_)]
        · exact gY l hl m
        · have : noA X Y N k = 100 + i := by show ndB _ _ k (fP (KK X Y N) k) = _; rw [← aA q, e]; exact b
          omega
        · have : noB X Y N k = 100 + i := by show ndB _ _ k (fQ (KK X Y N) k) = _; rw [← aB q, e]; exact b
          omega
    · rw [fN l hl m, gO_ne (fun q e => m (by rw [← e, aB q]; exact pB)), gO_ne (fun q e => m (by rw [← e, aA q]; exact pA)), hg l hl]
      unfold slotB
      have ne : fT X Y W N t l ≠ 100 + k := fun e => m (E1 l hl e)
      by_cases q : lo (snN X Y N (fT X Y W N t l)) = l ∧ (fT X Y W N t l < 100 ∨ 100 + (N - 1 - t) ≤ fT X Y W N t l)
      · rw [if_pos q, if_pos ⟨q.1, by omega⟩]
      · rw [if_neg q, if_neg (fun g => q ⟨g.1, by omega⟩)]
  · show (oO (noB X Y N k) (oO (noA X Y N k) r.2.2) i = 1 ∧ _) ∨ (oO (noB X Y N k) (oO (noA X Y N k) r.2.2) i = 0 ∧ _)
    by_cases qB : noB X Y N k = 100 + i
    · refine Or.inl ⟨by rw [qB]; exact oO_eq, fQ (KK X Y N) k, hQ, ?_⟩
      rw [fY _ hQ pB]; exact qB
    · rw [oO_ne qB]
      by_cases qA : noA X Y N k = 100 + i
      · refine Or.inl ⟨by rw [qA]; exact oO_eq, fP (KK X Y N) k, hP, ?_⟩
        rw [fY _ hP pA]; exact qA
      · rw [oO_ne qA]
        rcases ho i (by omega) with ⟨o, l, hl, e⟩ | ⟨o, e⟩
        · refine Or.inl ⟨o, l, hl, ?_⟩
          rw [stp, if_neg (fun q => by omega)]
          exact e
        · refine Or.inr ⟨o, fun l hl g => ?_⟩
          by_cases m : (pmB (fP (KK X Y N)) (fQ (KK X Y N)) k).testBit l = true
          · rw [fY l hl m] at g
            rcases side l hl m with s | s
            · exact qA (s.symm.trans g)
            · exact qB (s.symm.trans g)
          · rw [fN l hl m] at g
            exact e l hl g
