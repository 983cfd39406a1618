/-! ===== PURE 57: call longest ===== -/
theorem ad_rt {X Y : Nat → Nat} {N u v l : Nat} (hN : N ≤ 24) (h : adT X Y N u v l) : l = rt (ap X Y u v) ∧ u < N ∧ v < N := by
  obtain ⟨j, hj, e, c⟩ := h
  have ⟨a1, a2, a3, a4⟩ := isK_spec hN (KK_isK (X := X) (Y := Y) hN hj)
  have ⟨b1, b2⟩ := KK_lt (X := X) (Y := Y) hN hj
  have a5 : KK X Y N j / 1024 = ap X Y (fP (KK X Y N) j) (fQ (KK X Y N) j) := a4
  rw [e]
  unfold RR
  rw [a5]
  rcases c with ⟨c1, c2⟩ | ⟨c1, c2⟩ <;> rw [c1, c2]
  · exact ⟨rfl, b1, b2⟩
  · exact ⟨by rw [ap_comm], b2, b1⟩
theorem dr_bd {X Y : Nat → Nat} {N p q : Nat} (hN : N ≤ 24) (hI : IN N X Y) (hp : p < N) (hq : q < N) : drB X Y N p q ≤ 49152 := by
  have H := for_all (X := X) (Y := Y) hN
  have b := for_bd H (N := N) (fun x y h => h.2) (x := p) (y := q) ⟨hp, hq⟩
  have l := for_long H (c := 2048) (fun x y l h => by
    have ⟨e, h1, h2⟩ := ad_rt hN h
    have a := ap_lt (hI x h1).1 (hI y h2).1 (hI x h1).2 (hI y h2).2
    have := (rt_spec (v := ap X Y x y) (by omega)).2.2
    omega) (v := q) (dlB X Y N p q) p ⟨hp, hq⟩ rfl
  omega
theorem rootsAlong9 {F N p q : Nat} {X Y : Nat → Nat} {first second xs ys : Nat → Int32} (hF : 5000 ≤ F) (hN : N ≤ 24) (hP : PT N X Y xs ys) (hI : IN N X Y) (h1 : ∀ j, j < N - 1 → first j = nI (fP (KK X Y N) j) ∧ second j = nI (fQ (KK X Y N) j)) (hp : p < N) (hq : q < N) (wl : Int32) (way : Nat → Int32) :
    ∃ r, mX9_rootsAlong F (nI p) (nI q) (nI N) wl first second way xs ys = some r ∧ r.1 = nI (drB X Y N p q) := by
  obtain ⟨r, er, k1, w, w1, w2⟩ := goesAll9 (F := F) (by omega) hN h1 hp hq way
  have H := for_all (X := X) (Y := Y) hN
  have hD := for_bd H (N := N) (fun x y h => h.2) (x := p) (y := q) ⟨hp, hq⟩
  obtain ⟨⟨es, et⟩, ⟨d0, dz, ds, dt⟩, ae, a1, a2, a3, a4⟩ := H
  have w0 := w1 0 (by omega)
  have ep : w 0 = p := (dz p (w 0) ⟨hp, w0.2.1⟩ w0.2.2.1).symm
  have wD := w1 (dlB X Y N p q) (Nat.le_refl _)
  have eq : w (dlB X Y N p q) = q := dz _ q ⟨wD.2.1, hq⟩ (by omega)
  obtain ⟨s, e, g⟩ := lpI (body := fun s18 : Int32 × Int32 => mX9_rootsAlong_b18 F xs ys r.2.1 r.2.2 s18.1 s18.2) (F := F) (fun k (s : Nat) => (nI s, nI k)) (fun k s => s + drB X Y N (w (k - 1)) q = drB X Y N p q) 1 (dlB X Y N p q + 1) (fun s => (nI s, r.2.1, r.2.2)) 0 (by omega) (s0 := ((0 : Int32), (1 : Int32))) rfl
    (by rw [show 1 - 1 = 0 from rfl, ep]; omega) (fun k s hk1 hk hI2 => by
      have c1 := w1 (k - 1) (by omega)
      have c2 := w1 k (by omega)
      rw [Nat.zero_add] at c1 c2
      obtain ⟨l, hl⟩ := w2 (k - 1) (by omega)
      rw [show k - 1 + 1 = k by omega] at hl
      have ⟨el, l1, l2⟩ := ad_rt hN hl
      have a := ap_lt (hI _ l1).1 (hI _ l2).1 (hI _ l1).2 (hI _ l2).2
      have st := a4 (w (k - 1)) (w k) l q hl ⟨l1, hq⟩ (by omega)
      refine ⟨s + l, ?_, by rw [Nat.add_sub_cancel]; omega⟩
      show mX9_rootsAlong_b18 F xs ys r.2.1 r.2.2 (nI s) (nI k) = _
      unfold mX9_rootsAlong_b18
      rw [k1, if_neg (show ¬ nI (dlB X Y N p q + 1) ≤ nI k by rw [nI_leE (by omega) (by omega)]; omega), nI_s1 hk1, rdI_n (by omega) (by omega), Option.bind_some, rdI_n (by omega) (by omega), Option.bind_some, c1.1, c2.1, apart9 hN hP hI l1 l2, Option.bind_some, root9 hF (by omega), Option.bind_some, Option.bind_some, ← el, nI_add, nI_1]) (fun s _ => by
      show mX9_rootsAlong_b18 F xs ys r.2.1 r.2.2 (nI s) (nI (dlB X Y N p q + 1)) = _
      unfold mX9_rootsAlong_b18
      rw [k1, if_pos (show nI (dlB X Y N p q + 1) ≤ nI (dlB X Y N p q + 1) by rw [nI_leE (by omega) (by omega)]; omega)]) (by omega)
  refine ⟨(nI s, r.2.1, r.2.2), ?_, ?_⟩
  · unfold mX9_rootsAlong
    rw [er, Option.bind_some, e]
  · show nI s = _
    have z := (d0 q ⟨hq, hq⟩).2
    rw [Nat.add_sub_cancel, eq, z] at g
    rw [← g]
    rfl
/-- the longest way so far: how long, from where, to where -/
def lgS (s : Option (Nat × Nat × Nat)) (p q v : Nat) : Option (Nat × Nat × Nat) := match s with
  | none => some (v, p, q)
  | some t => if v ≤ t.1 then some t else some (v, p, q)
def lgIn (d : Nat → Nat → Nat) (p : Nat) (s : Option (Nat × Nat × Nat)) : Nat → Option (Nat × Nat × Nat)
  | 0 => s
  | k + 1 => if p < k then lgS (lgIn d p s k) p k (d p k) else lgIn d p s k
def lgOut (d : Nat → Nat → Nat) (N : Nat) : Nat → Option (Nat × Nat × Nat)
  | 0 => none
  | p + 1 => lgIn d p (lgOut d N p) N
def lg8 : Option (Nat × Nat × Nat) → Int32 × Int32 × Int32
  | none => (-1, -1, -1)
  | some t => (nI t.1, nI t.2.1, nI t.2.2)
def lg9 : Option (Nat × Nat × Nat) → Int32 × Int32 × Int32
  | none => (-1, 0, 0)
  | some t => (nI t.1, nI t.2.1, nI t.2.2)
theorem lgIn_0 {d : Nat → Nat → Nat} {p : Nat} {s : Option (Nat × Nat × Nat)} : ∀ k, k ≤ p + 1 → lgIn d p s k = s
  | 0, _ => rfl
  | k + 1, h => by
    have e : lgIn d p s (k + 1) = lgIn d p s k := if_neg (by omega)
    rw [e, lgIn_0 k (by omega)]
def lgBd (s : Option (Nat × Nat × Nat)) : Prop := ∀ t, s = some t → t.1 ≤ 49152
theorem lgS_bd {s : Option (Nat × Nat × Nat)} {p q v : Nat} (h : lgBd s) (hv : v ≤ 49152) : lgBd (lgS s p q v) := by
  intro t ht
  cases s with
  | none =>
    have e : some (v, p, q) = some t := ht
    cases e
    exact hv
  | some u =>
    have e : (if v ≤ u.1 then some u else some (v, p, q)) = some t := ht
    by_cases c : v ≤ u.1
    · rw [if_pos c] at e
      injection e with e
      rw [← e]
      exact h u rfl
    · rw [if_neg c] at e
      cases e
      exact hv
theorem lgIn_bd {d : Nat → Nat → Nat} {N p : Nat} {s : Option (Nat × Nat × Nat)} (hd : ∀ q, q < N → d p q ≤ 49152) (h : lgBd s) : ∀ k, k ≤ N → lgBd (lgIn d p s k)
  | 0, _ => h
  | k + 1, hk => by
    by_cases c : p < k
    · have e : lgIn d p s (k + 1) = lgS (lgIn d p s k) p k (d p k) := if_pos c
      rw [e]
      exact lgS_bd (lgIn_bd hd h k (by omega)) (hd k (by omega))
    · have e : lgIn d p s (k + 1) = lgIn d p s k := if_neg c
      rw [e]
      exact lgIn_bd hd h k (by omega)
theorem lgOut_bd {d : Nat → Nat → Nat} {N : Nat} (hd : ∀ p q, p < N → q < N → d p q ≤ 49152) : ∀ p, p ≤ N → lgBd (lgOut d N p)
  | 0, _ => fun t h => by cases h
  | p + 1, hp => lgIn_bd (fun q hq => hd p q (by omega) hq) (lgOut_bd hd p (by omega)) N (Nat.le_refl _)
theorem lgS_ne {s : Option (Nat × Nat × Nat)} {p q v : Nat} : lgS s p q v ≠ none := by
  cases s with
  | none => exact fun h => by cases h
  | some t =>
    show (if v ≤ t.1 then some t else some (v, p, q)) ≠ none
    by_cases c : v ≤ t.1
    · rw [if_pos c]; exact fun h => by cases h
    · rw [if_neg c]; exact fun h => by cases h
theorem lgIn_ne {d : Nat → Nat → Nat} {p : Nat} {s : Option (Nat × Nat × Nat)} : ∀ k, s ≠ none ∨ p + 1 < k → lgIn d p s k ≠ none
  | 0, h => by
    rcases h with h | h
    · exact h
    · omega
  | k + 1, h => by
    by_cases c : p < k
    · have e : lgIn d p s (k + 1) = lgS (lgIn d p s k) p k (d p k) := if_pos c
      rw [e]
      exact lgS_ne
    · have e : lgIn d p s (k + 1) = lgIn d p s k := if_neg c
      rw [e]
      exact lgIn_ne k (by rcases h with h | h; exact Or.inl h; omega)
theorem lgOut_ne {d : Nat → Nat → Nat} {N : Nat} (h2 : 2 ≤ N) : ∀ p, 1 ≤ p → lgOut d N p ≠ none
  | 0, h => absurd h (by omega)
  | p + 1, _ => by
    rcases Nat.eq_zero_or_pos p with e | e
    · exact lgIn_ne N (Or.inr (by omega))
    · exact lgIn_ne N (Or.inl (lgOut_ne h2 p e))
