/-! ===== PURE 31: call densest ===== -/
/-- whether a window comes ahead of the best one so far -/
def dnB (s : Option (Nat × Nat × Nat)) (x y w : Nat) : Bool := match s with
  | none => true
  | some t => decide (t.2.2 < w) || (decide (w = t.2.2) && (decide (x < t.1) || (decide (x = t.1) && decide (y < t.2.1))))
def dS (s : Option (Nat × Nat × Nat)) (x y w : Nat) : Option (Nat × Nat × Nat) := if dnB s x y w = true then some (x, y, w) else s
def dIn (X Y : Nat → Nat) (w : Nat → Nat → Nat) (s : Option (Nat × Nat × Nat)) (a : Nat) : Nat → Option (Nat × Nat × Nat)
  | 0 => s
  | k + 1 => dS (dIn X Y w s a k) (X a) (Y k) (w a k)
def dOut (X Y : Nat → Nat) (w : Nat → Nat → Nat) (N : Nat) : Nat → Option (Nat × Nat × Nat)
  | 0 => none
  | a + 1 => dIn X Y w (dOut X Y w N a) a N
def enc8 : Option (Nat × Nat × Nat) → Int32 × Int32 × Int32
  | none => (1024, 1024, 0)
  | some t => (nI t.1, nI t.2.1, nI t.2.2)
def enc9 : Option (Nat × Nat × Nat) → Int32 × Int32 × Int32
  | none => (-1, 0, 0)
  | some t => (nI t.2.2, nI t.1, nI t.2.1)
def dBd (s : Option (Nat × Nat × Nat)) : Prop := ∀ t, s = some t → t.1 < 1024 ∧ t.2.1 < 1024 ∧ t.2.2 ≤ 2376
theorem dS_bd {s : Option (Nat × Nat × Nat)} {x y w : Nat} (h : dBd s) (hx : x < 1024) (hy : y < 1024) (hw : w ≤ 2376) : dBd (dS s x y w) := by
  unfold dS
  split
  · intro t ht; cases ht; exact ⟨hx, hy, hw⟩
  · exact h
theorem dIn_bd {N a : Nat} {X Y : Nat → Nat} {w : Nat → Nat → Nat} {s : Option (Nat × Nat × Nat)} (hI : IN N X Y) (ha : a < N) (hw : ∀ a b, w a b ≤ 2376) (h : dBd s) : ∀ k, k ≤ N → dBd (dIn X Y w s a k)
  | 0, _ => h
  | k + 1, hk => dS_bd (dIn_bd hI ha hw h k (by omega)) (hI a ha).1 (hI k (by omega)).2 (hw a k)
theorem dOut_bd {N : Nat} {X Y : Nat → Nat} {w : Nat → Nat → Nat} (hI : IN N X Y) (hw : ∀ a b, w a b ≤ 2376) : ∀ a, a ≤ N → dBd (dOut X Y w N a)
  | 0, _ => fun t ht => by cases ht
  | a + 1, ha => dIn_bd hI (by omega) hw (dOut_bd hI hw a (by omega)) N (Nat.le_refl _)
theorem dIn_some {X Y : Nat → Nat} {w : Nat → Nat → Nat} {s : Option (Nat × Nat × Nat)} {a : Nat} : ∀ k, 0 < k → ∃ t, dIn X Y w s a k = some t
  | 0, h => by omega
  | k + 1, _ => by
    show ∃ t, dS (dIn X Y w s a k) (X a) (Y k) (w a k) = some t
    unfold dS
    cases e : dIn X Y w s a k with
    | none => exact ⟨_, if_pos rfl⟩
    | some t =>
      by_cases c : dnB (some t) (X a) (Y k) (w a k) = true
      · exact ⟨_, if_pos c⟩
      · exact ⟨t, if_neg c⟩
def mD (X Y : Nat → Nat) (N z : Nat) (xs ys : Nat → Int32) (x y : Nat) : Nat := mkB (inW (nI x) (nI (x + (rad z - 1))) (nI y) (nI (y + (rad z - 1))) xs ys) N
def wD (X Y W : Nat → Nat) (N z : Nat) (xs ys : Nat → Int32) (a b : Nat) : Nat := wtB W (mD X Y N z xs ys (X a) (Y b)) N
theorem j138_8 {F : Nat} {s : Option (Nat × Nat × Nat)} {x y w k : Nat} (hs : dBd s) (hx : x < 1024) (hy : y < 1024) (hw : w ≤ 2376) :
    (if nI x < (enc8 s).1 then mX8_densest_j133 F (enc8 s).1 (enc8 s).2.1 (enc8 s).2.2 (nI k) (nI x) (nI y) (nI w) else (if nI x = (enc8 s).1 then (if (enc8 s).2.1 ≤ nI y then mX8_densest_j137 F (enc8 s).1 (enc8 s).2.1 (enc8 s).2.2 (nI k) (nI x) (nI y) (nI w) else mX8_densest_j133 F (enc8 s).1 (enc8 s).2.1 (enc8 s).2.2 (nI k) (nI x) (nI y) (nI w)) else mX8_densest_j137 F (enc8 s).1 (enc8 s).2.1 (enc8 s).2.2 (nI k) (nI x) (nI y) (nI w))) =
      some (.inl ((enc8 (dS s x y w)).1, (enc8 (dS s x y w)).2.1, (enc8 (dS s x y w)).2.2, nI (k + 1))) := by
  have o1 : ¬ (1 : Int32) = 0 := by decide +kernel
  unfold dS
  cases s with
  | none =>
    rw [if_pos (show dnB none x y w = true from rfl)]
    show (if nI x < (1024 : Int32) then mX8_densest_j133 F 1024 1024 0 (nI k) (nI x) (nI y) (nI w) else _) = some (.inl (nI x, nI y, nI w, nI (k + 1)))
    rw [if_pos (show nI x < (1024 : Int32) by rw [c1024, nI_ltE (by omega) (by omega)]; exact hx)]
    unfold mX8_densest_j133 mX8_densest_j138
    by_cases c : w = 0
    · subst c
      rw [if_neg (show ¬ (0 : Int32) < nI 0 by decide +kernel), if_pos (show nI 0 = (0 : Int32) from rfl), if_neg o1, nI_1]
    · rw [if_pos (show (0 : Int32) < nI w by rw [c0, nI_ltE (by omega) (by omega)]; omega), nI_1]
  | some t =>
    obtain ⟨a, b, c⟩ := t
    have ⟨ha, hb, hc⟩ := hs _ rfl
    simp only [] at ha hb hc
    show (if nI x < nI a then mX8_densest_j133 F (nI a) (nI b) (nI c) (nI k) (nI x) (nI y) (nI w) else (if nI x = nI a then (if nI b ≤ nI y then mX8_densest_j137 F (nI a) (nI b) (nI c) (nI k) (nI x) (nI y) (nI w) else mX8_densest_j133 F (nI a) (nI b) (nI c) (nI k) (nI x) (nI y) (nI w)) else mX8_densest_j137 F (nI a) (nI b) (nI c) (nI k) (nI x) (nI y) (nI w))) = _
    have h1 : mX8_densest_j133 F (nI a) (nI b) (nI c) (nI k) (nI x) (nI y) (nI w) = if c < w ∨ w = c then some (.inl (nI x, nI y, nI w, nI (k + 1))) else some (.inl (nI a, nI b, nI c, nI (k + 1))) := by
      unfold mX8_densest_j133 mX8_densest_j138
      by_cases d : c < w
      · rw [if_pos ((nI_ltI (by omega) (by omega)).mpr d), if_pos (Or.inl d), nI_1]
      · rw [if_neg (fun q => d ((nI_ltI (by omega) (by omega)).mp q))]
        by_cases d2 : w = c
        · rw [if_pos (congrArg nI d2), if_neg o1, if_pos (Or.inr d2), nI_1]
        · rw [if_neg (fun q => d2 ((nI_eq (by omega) (by omega)).mp q)), if_neg (fun q => q.elim d d2), nI_1]
    have h2 : mX8_densest_j137 F (nI a) (nI b) (nI c) (nI k) (nI x) (nI y) (nI w) = if c < w then some (.inl (nI x, nI y, nI w, nI (k + 1))) else some (.inl (nI a, nI b, nI c, nI (k + 1))) := by
      unfold mX8_densest_j137 mX8_densest_j138
      by_cases d : c < w
      · rw [if_pos ((nI_ltI (by omega) (by omega)).mpr d), if_pos d, nI_1]
      · rw [if_neg (fun q => d ((nI_ltI (by omega) (by omega)).mp q)), if_neg d, nI_1]
        by_cases d2 : w = c
        · rw [if_pos (congrArg nI d2), if_pos rfl]
        · rw [if_neg (fun q => d2 ((nI_eq (by omega) (by omega)).mp q))]
    rw [h1, h2]
    have hd : dnB (some (a, b, c)) x y w = decide (c < w ∨ w = c ∧ (x < a ∨ x = a ∧ y < b)) := by
      unfold dnB
      simp only [Bool.decide_or, Bool.decide_and]
    by_cases e1 : x < a
    · rw [if_pos ((nI_ltI (by omega) (by omega)).mpr e1)]
      by_cases d : c < w ∨ w = c
      · rw [if_pos d, if_pos (by rw [hd]; exact decide_eq_true (by omega))]; rfl
      · rw [if_neg d, if_neg (by rw [hd, decide_eq_false (by omega)]; decide)]; rfl
    · rw [if_neg (fun q => e1 ((nI_ltI (by omega) (by omega)).mp q))]
      by_cases e2 : x = a
      · rw [if_pos (congrArg nI e2)]
        by_cases e3 : b ≤ y
        · rw [if_pos ((nI_leI (by omega) (by omega)).mpr e3)]
          by_cases d : c < w
          · rw [if_pos d, if_pos (by rw [hd]; exact decide_eq_true (by omega))]; rfl
          · rw [if_neg d, if_neg (by rw [hd, decide_eq_false (by omega)]; decide)]; rfl
        · rw [if_neg (fun q => e3 ((nI_leI (by omega) (by omega)).mp q))]
          by_cases d : c < w ∨ w = c
          · rw [if_pos d, if_pos (by rw [hd]; exact decide_eq_true (by omega))]; rfl
          · rw [if_neg d, if_neg (by rw [hd, decide_eq_false (by omega)]; decide)]; rfl
      · rw [if_neg (fun q => e2 ((nI_eq (by omega) (by omega)).mp q))]
        by_cases d : c < w
        · rw [if_pos d, if_pos (by rw [hd]; exact decide_eq_true (by omega))]; rfl
        · rw [if_neg d, if_neg (by rw [hd, decide_eq_false (by omega)]; decide)]; rfl
theorem dIn8 {F N z a : Nat} {X Y W : Nat → Nat} {ws xs ys : Nat → Int32} (hF : 1000 ≤ F) (gd : GOOD N X Y W) (hP : ROWS N X Y W ws xs ys) (ha : a < N) {s : Option (Nat × Nat × Nat)} (hs : dBd s) :
    loop (fun s61 : Int32 × Int32 × Int32 × Int32 => mX8_densest_b61 F (nI N) ws xs ys (nI (rad z - 1)) (nI a) s61.1 s61.2.1 s61.2.2.1 s61.2.2.2) F ((enc8 s).1, (enc8 s).2.1, (enc8 s).2.2, (0 : Int32)) = some (enc8 (dIn X Y (wD X Y W N z xs ys) s a N)) := by
  have hN := gd.1
  have hw : ∀ a b, wD X Y W N z xs ys a b ≤ 2376 := fun a b => wtB_le hN (fun i hi => (gd.2.2.1 i hi).2)
  refine lp (fun k => ((enc8 (dIn X Y (wD X Y W N z xs ys) s a k)).1, (enc8 (dIn X Y (wD X Y W N z xs ys) s a k)).2.1, (enc8 (dIn X Y (wD X Y W N z xs ys) s a k)).2.2, nI k)) 0 N _ (by omega) rfl (fun k _ hk => ?_) ?_ (by omega)
  · have ⟨p0, p1, p2⟩ := hP a ha
    have ⟨q0, q1, q2⟩ := hP k hk
    have bd := dIn_bd gd.2.1 ha hw hs k (by omega)
    have m31 : mD X Y N z xs ys (X a) (Y k) < 2 ^ 31 := mk_lt31 _ (by omega)
    show mX8_densest_b61 F (nI N) ws xs ys (nI (rad z - 1)) (nI a) (enc8 (dIn X Y (wD X Y W N z xs ys) s a k)).1 (enc8 (dIn X Y (wD X Y W N z xs ys) s a k)).2.1 (enc8 (dIn X Y (wD X Y W N z xs ys) s a k)).2.2 (nI k) = some (.inl ((enc8 (dS (dIn X Y (wD X Y W N z xs ys) s a k) (X a) (Y k) (wD X Y W N z xs ys a k))).1, (enc8 (dS (dIn X Y (wD X Y W N z xs ys) s a k) (X a) (Y k) (wD X Y W N z xs ys a k))).2.1, (enc8 (dS (dIn X Y (wD X Y W N z xs ys) s a k) (X a) (Y k) (wD X Y W N z xs ys a k))).2.2, nI (k + 1)))
    rw [← j138_8 (F := F) bd (gd.2.1 a ha).1 (gd.2.1 k hk).2 (hw a k)]
    unfold mX8_densest_b61
    rw [if_neg (by rw [nI_leE (by omega) (by omega)]; omega), rdI_n (by omega) (by omega), Option.bind_some, rdI_n (by omega) (by omega), Option.bind_some, p1, q2, within4 hF hN, Option.bind_some, nI_add, nI_add]
    rw [show nI (mkB (inW (nI (X a)) (nI (X a + (rad z - 1))) (nI (Y k)) (nI (Y k + (rad z - 1))) xs ys) N) = nI (mD X Y N z xs ys (X a) (Y k)) from rfl, weight4 hF hN m31 (rows_w hP), Option.bind_some]
    rfl
  · unfold mX8_densest_b61
    simp only []
    rw [if_pos (by rw [nI_leE (by omega) (by omega)]; omega)]
theorem dOut8 {F N z : Nat} {X Y W : Nat → Nat} {ws xs ys : Nat → Int32} (hF : 1000 ≤ F) (gd : GOOD N X Y W) (hP : ROWS N X Y W ws xs ys) :
    loop (fun s49 : Int32 × Int32 × Int32 × Int32 => mX8_densest_b49 F (nI N) ws xs ys (nI (rad z - 1)) s49.1 s49.2.1 s49.2.2.1 s49.2.2.2) F ((1024 : Int32), (1024 : Int32), (0 : Int32), (0 : Int32)) = some (enc8 (dOut X Y (wD X Y W N z xs ys) N N)) := by
  have hN := gd.1
  have hw : ∀ a b, wD X Y W N z xs ys a b ≤ 2376 := fun a b => wtB_le hN (fun i hi => (gd.2.2.1 i hi).2)
  refine lp (fun k => ((enc8 (dOut X Y (wD X Y W N z xs ys) N k)).1, (enc8 (dOut X Y (wD X Y W N z xs ys) N k)).2.1, (enc8 (dOut X Y (wD X Y W N z xs ys) N k)).2.2, nI k)) 0 N _ (by omega) rfl (fun k _ hk => ?_) ?_ (by omega)
  · have bd := dOut_bd (N := N) gd.2.1 hw k (by omega)
    have i8 := dIn8 (F := F) (z := z) hF gd hP hk bd
    unfold mX8_densest_b49
    simp only []
    rw [if_neg (by rw [nI_leE (by omega) (by omega)]; omega), i8, Option.bind_some, nI_1]
    rfl
  · unfold mX8_densest_b49
    simp only []
    rw [if_pos (by rw [nI_leE (by omega) (by omega)]; omega)]
theorem j169_9 {F N a k : Nat} {X Y : Nat → Nat} {xs ys : Nat → Int32} (hN : N ≤ 24) (hP : PT N X Y xs ys) (hI : IN N X Y) (ha : a < N) (hk : k < N) {s : Option (Nat × Nat × Nat)} {w : Nat} (hs : dBd s) (hw : w ≤ 2376) :
    (if (enc9 s).1 < nI w then (mX9_densest_j169 F xs ys (nI a) (enc9 s).1 (enc9 s).2.1 (enc9 s).2.2 (nI k) (nI w)) else (if nI w = (enc9 s).1 then (if nI (X a) < (enc9 s).2.1 then (mX9_densest_j169 F xs ys (nI a) (enc9 s).1 (enc9 s).2.1 (enc9 s).2.2 (nI k) (nI w)) else (if nI (X a) = (enc9 s).2.1 then (if (enc9 s).2.2 ≤ nI (Y k) then (mX9_densest_j173 F xs ys (nI a) (enc9 s).1 (enc9 s).2.1 (enc9 s).2.2 (nI k) (nI w)) else (mX9_densest_j169 F xs ys (nI a) (enc9 s).1 (enc9 s).2.1 (enc9 s).2.2 (nI k) (nI w))) else (mX9_densest_j173 F xs ys (nI a) (enc9 s).1 (enc9 s).2.1 (enc9 s).2.2 (nI k) (nI w)))) else (mX9_densest_j173 F xs ys (nI a) (enc9 s).1 (enc9 s).2.1 (enc9 s).2.2 (nI k) (nI w)))) =
      some (.inl ((enc9 (dS s (X a) (Y k) w)).1, (enc9 (dS s (X a) (Y k) w)).2.1, (enc9 (dS s (X a) (Y k) w)).2.2, nI (k + 1))) := by
  have o1 : ¬ (1 : Int32) = 0 := by decide +kernel
  have ⟨hx, _⟩ := hI a ha
  have ⟨_, hy⟩ := hI k hk
  have h1 : ∀ u v q : Int32, mX9_densest_j169 F xs ys (nI a) u v q (nI k) (nI w) = some (.inl (nI w, nI (X a), nI (Y k), nI (k + 1))) := fun u v q => by
    unfold mX9_densest_j169 mX9_densest_j174
    rw [if_neg o1, rdI_n (by omega) (by omega), Option.bind_some, rdI_n (by omega) (by omega), Option.bind_some, (hP a ha).1, (hP k hk).2, nI_1]
  have h2 : ∀ u v q : Int32, mX9_densest_j173 F xs ys (nI a) u v q (nI k) (nI w) = some (.inl (u, v, q, nI (k + 1))) := fun u v q => by
    unfold mX9_densest_j173 mX9_densest_j174
    rw [if_pos rfl, nI_1]
  simp only [h1, h2]
  unfold dS
  cases s with
  | none =>
    rw [if_pos (show dnB none (X a) (Y k) w = true from rfl)]
    rw [if_pos (show (enc9 none).1 < nI w by show (-1 : Int32) < nI w; rw [tI_lt, m1_toInt, tI_n (by omega)]; omega)]
    rfl
  | some t =>
    obtain ⟨p, q, c⟩ := t
    have ⟨ha', hb', hc'⟩ := hs _ rfl
    simp only [] at ha' hb' hc'
    have hd : dnB (some (p, q, c)) (X a) (Y k) w = decide (c < w ∨ w = c ∧ (X a < p ∨ X a = p ∧ Y k < q)) := by
      unfold dnB
      simp only [Bool.decide_or, Bool.decide_and]
    show (if nI c < nI w then _ else (if nI w = nI c then (if nI (X a) < nI p then _ else (if nI (X a) = nI p then (if nI q ≤ nI (Y k) then _ else _) else _)) else _)) = _
    by_cases d : c < w
    · rw [if_pos ((nI_ltI (by omega) (by omega)).mpr d), if_pos (by rw [hd]; exact decide_eq_true (by omega))]; rfl
    · rw [if_neg (fun r => d ((nI_ltI (by omega) (by omega)).mp r))]
      by_cases d2 : w = c
      · rw [if_pos (congrArg nI d2)]
        by_cases e1 : X a < p
        · rw [if_pos ((nI_ltI (by omega) (by omega)).mpr e1), if_pos (by rw [hd]; exact decide_eq_true (by omega))]; rfl
        · rw [if_neg (fun r => e1 ((nI_ltI (by omega) (by omega)).mp r))]
          by_cases e2 : X a = p
          · rw [if_pos (congrArg nI e2)]
            by_cases e3 : q ≤ Y k
            · rw [if_pos ((nI_leI (by omega) (by omega)).mpr e3), if_neg (by rw [hd, decide_eq_false (by omega)]; decide)]
            · rw [if_neg (fun r => e3 ((nI_leI (by omega) (by omega)).mp r)), if_pos (by rw [hd]; exact decide_eq_true (by omega))]; rfl
          · rw [if_neg (fun r => e2 ((nI_eq (by omega) (by omega)).mp r)), if_neg (by rw [hd, decide_eq_false (by omega)]; decide)]
      · rw [if_neg (fun r => d2 ((nI_eq (by omega) (by omega)).mp r)), if_neg (by rw [hd, decide_eq_false (by omega)]; decide)]
theorem mD_congr {X Y : Nat → Nat} {N z : Nat} {xs ys xs' ys' : Nat → Int32} (h : ∀ i, i < N → xs i = xs' i ∧ ys i = ys' i) (x y : Nat) : mD X Y N z xs ys x y = mD X Y N z xs' ys' x y := inW_congr h _ _ _ _
theorem dIn9 {F N z a : Nat} {X Y W : Nat → Nat} {ws xs ys us vs : Nat → Int32} (hF : 1000 ≤ F) (hz : z ≤ 10) (gd : GOOD N X Y W) (hP : ROWS N X Y W ws xs ys) (hE : ∀ i, i < N → us i = xs i ∧ vs i = ys i) (ha : a < N) {s : Option (Nat × Nat × Nat)} (hs : dBd s) :
    loop (fun s58 : Int32 × Int32 × Int32 × Int32 => mX9_densest_b58 F (nI z) (nI N) ws xs ys (nI a) s58.1 s58.2.1 s58.2.2.1 s58.2.2.2) F ((enc9 s).1, (enc9 s).2.1, (enc9 s).2.2, (0 : Int32)) = some (enc9 (dIn X Y (wD X Y W N z us vs) s a N)) := by
  have hN := gd.1
  have rp := rad_pos hz
  have hw : ∀ a b, wD X Y W N z us vs a b ≤ 2376 := fun a b => wtB_le hN (fun i hi => (gd.2.2.1 i hi).2)
  refine lp (fun k => ((enc9 (dIn X Y (wD X Y W N z us vs) s a k)).1, (enc9 (dIn X Y (wD X Y W N z us vs) s a k)).2.1, (enc9 (dIn X Y (wD X Y W N z us vs) s a k)).2.2, nI k)) 0 N _ (by omega) rfl (fun k _ hk => ?_) ?_ (by omega)
  · have ⟨p0, p1, p2⟩ := hP a ha
    have ⟨q0, q1, q2⟩ := hP k hk
    have bd := dIn_bd gd.2.1 ha hw hs k (by omega)
    have m31 : mD X Y N z us vs (X a) (Y k) < 2 ^ 31 := mk_lt31 _ (by omega)
    show mX9_densest_b58 F (nI z) (nI N) ws xs ys (nI a) (enc9 (dIn X Y (wD X Y W N z us vs) s a k)).1 (enc9 (dIn X Y (wD X Y W N z us vs) s a k)).2.1 (enc9 (dIn X Y (wD X Y W N z us vs) s a k)).2.2 (nI k) = some (.inl ((enc9 (dS (dIn X Y (wD X Y W N z us vs) s a k) (X a) (Y k) (wD X Y W N z us vs a k))).1, (enc9 (dS (dIn X Y (wD X Y W N z us vs) s a k) (X a) (Y k) (wD X Y W N z us vs a k))).2.1, (enc9 (dS (dIn X Y (wD X Y W N z us vs) s a k) (X a) (Y k) (wD X Y W N z us vs a k))).2.2, nI (k + 1)))
    rw [← j169_9 (F := F) hN (rows_pt hP) gd.2.1 ha hk bd (hw a k)]
    have ex : nI (X a) + nI (rad z) - 1 = nI (X a + (rad z - 1)) := by rw [nI_add, nI_s1 (by omega)]; congr 1; omega
    have ey : nI (Y k) + nI (rad z) - 1 = nI (Y k + (rad z - 1)) := by rw [nI_add, nI_s1 (by omega)]; congr 1; omega
    have em : mX9_pointsIn F (nI (X a)) (nI (X a + (rad z - 1))) (nI (Y k)) (nI (Y k + (rad z - 1))) (nI N) xs ys = some (nI (mD X Y N z us vs (X a) (Y k))) := by
      rw [within9 hF hN, mD_congr hE]
      rfl
    have ewt := weight9 (F := F) hF hN m31 (rows_w hP)
    have ewt2 : mX9_weightOf F (nI (mD X Y N z us vs (X a) (Y k))) (nI N) ws = some (nI (wD X Y W N z us vs a k)) := ewt
    unfold mX9_densest_b58
    rw [if_neg (by rw [nI_leE (by omega) (by omega)]; omega)]
    simp only [rdI_n (show a < 24 by omega) (by omega), rdI_n (show k < 24 by omega) (by omega), Option.bind_some, radius9 hz, p1, q2, ex, ey, em, ewt2]
  · unfold mX9_densest_b58
    simp only []
    rw [if_pos (by rw [nI_leE (by omega) (by omega)]; omega)]
theorem dOut9 {F N z : Nat} {X Y W : Nat → Nat} {ws xs ys us vs : Nat → Int32} (hF : 1000 ≤ F) (hz : z ≤ 10) (gd : GOOD N X Y W) (hP : ROWS N X Y W ws xs ys) (hE : ∀ i, i < N → us i = xs i ∧ vs i = ys i) :
    loop (fun s46 : Int32 × Int32 × Int32 × Int32 => mX9_densest_b46 F (nI z) (nI N) ws xs ys s46.1 s46.2.1 s46.2.2.1 s46.2.2.2) F ((-1 : Int32), (0 : Int32), (0 : Int32), (0 : Int32)) = some (enc9 (dOut X Y (wD X Y W N z us vs) N N)) := by
  have hN := gd.1
  have hw : ∀ a b, wD X Y W N z us vs a b ≤ 2376 := fun a b => wtB_le hN (fun i hi => (gd.2.2.1 i hi).2)
  refine lp (fun k => ((enc9 (dOut X Y (wD X Y W N z us vs) N k)).1, (enc9 (dOut X Y (wD X Y W N z us vs) N k)).2.1, (enc9 (dOut X Y (wD X Y W N z us vs) N k)).2.2, nI k)) 0 N _ (by omega) rfl (fun k _ hk => ?_) ?_ (by omega)
  · have bd := dOut_bd (N := N) gd.2.1 hw k (by omega)
    have i9 := dIn9 (F := F) (z := z) hF hz gd hP hE hk bd
    unfold mX9_densest_b46
    simp only []
    rw [if_neg (by rw [nI_leE (by omega) (by omega)]; omega), i9, Option.bind_some, nI_1]
    rfl
  · unfold mX9_densest_b46
    simp only []
    rw [if_pos (by rw [nI_leE (by omega) (by omega)]; omega)]
theorem call_densest {F : Nat} (hF : 5000 ≤ F) : Call_densest F INV := by
  intro ca cl ci fr a1 a2 h
  have h0 := h
  obtain ⟨N, M, S, X, Y, W, U, V, Z, ⟨g1, g2, g3, g4, g5, g6⟩, ⟨i8, i9, i15, i2, i3, i18, i19⟩, ⟨r1, r2, r3⟩, h4, h5, h6, h7⟩ := h
  have hN := g1.1
  have fin : ∀ v : Int32, mX8_densest F a1 a2 (ci 9) (ca 26) (ca 27) (ca 28) = some v → mX9_densest F a1 a2 (ci 14) (ci 15) (ca 73) (ca 81) (ca 82) = some (v, 0) →
      ∃ r8 r9, mX8_densest F a1 a2 (ci 9) (ca 26) (ca 27) (ca 28) = some r8 ∧ mX9_densest F a1 a2 (ci 14) (ci 15) (ca 73) (ca 81) (ca 82) = some r9 ∧ r8 = r9.1 ∧ INV ca cl (fun j => cond (Nat.beq j 14) ((r9.2)) (ci j)) := fun v e8 e9 => ⟨_, _, e8, e9, rfl, h0⟩
  rcases zm_or a1 with ⟨z, hz, rfl, z1, z2⟩ | hz
  · have z8 := isZoom8 F (nI z)
    have z9 := isZoom9 F (nI z)
    rw [decide_eq_true (p := 0 ≤ (nI z).toInt ∧ (nI z).toInt ≤ 10) ⟨z1, z2⟩] at z8 z9
    by_cases hN0 : N = 0
    · have n8 : ci 9 = 0 := by rw [i9, hN0]; rfl
      have n9 : ci 15 = 0 := by rw [i15, hN0]; rfl
      refine fin (-1) ?_ ?_
      · unfold mX8_densest
        rw [z8, Option.bind_some, if_neg (by rw [k0T]; exact id), if_pos n8]
      · unfold mX9_densest
        rw [z9, Option.bind_some, if_neg (by rw [k0T]; exact id), if_pos n9]
    · have n8 : ¬ nI N = 0 := by rw [nI_eq0 (by omega)]; exact hN0
      have rp := rad_pos hz
      have rl := rad_le z
      have hw : ∀ a b, wD X Y W N z (ca 27) (ca 28) a b ≤ 2376 := fun a b => wtB_le hN (fun i hi => (g1.2.2.1 i hi).2)
      have bd := dOut_bd (N := N) g1.2.1 hw N (Nat.le_refl _)
      obtain ⟨t, ht⟩ : ∃ t, dOut X Y (wD X Y W N z (ca 27) (ca 28)) N N = some t := by
        obtain ⟨n, rfl⟩ : ∃ n, N = n + 1 := ⟨N - 1, by omega⟩
        exact dIn_some (n + 1) (by omega)
      have ⟨bt1, bt2, bt3⟩ := bd t ht
      have d8 := dOut8 (F := F) (z := z) (by omega) g1 r1
      have d9 := dOut9 (F := F) (us := ca 27) (vs := ca 28) (by omega) hz g1 r2 (rows_eq r1 r2)
      rw [ht] at d8 d9
      have er : (1024 : Int32) >>> (nI z &&& 31) - 1 = nI (rad z - 1) := by rw [radI hz, nI_s1 rp]
      have pre8 : mX8_densest F (nI z) a2 (ci 9) (ca 26) (ca 27) (ca 28) = if a2 = (0 : Int32) then (some (nI t.1)) else if a2 = (1 : Int32) then (some (nI t.2.1)) else if a2 = (2 : Int32) then (some (nI t.2.2)) else if a2 = (3 : Int32) then (some (bitCnt (nI (mD X Y N z (ca 27) (ca 28) t.1 t.2.1)))) else some (-1) := by
        unfold mX8_densest
        rw [z8, Option.bind_some, if_neg (by rw [k0T]; exact id), i9, if_neg n8, er, Option.bind_some, d8, Option.bind_some]
        simp only [enc8]
        rw [within4 (by omega) hN, Option.bind_some, nI_add, nI_add]
        rfl
      have i9' := isInI9 F a2 0 3
      rw [l_0, l_3] at i9'
      have i_3 : (3 : Int32).toInt = 3 := by decide +kernel
      have i_2 : (2 : Int32).toInt = 2 := by decide +kernel
      have pre9 : (0 ≤ a2.toInt ∧ a2.toInt ≤ 3) → mX9_densest F (nI z) a2 (ci 14) (ci 15) (ca 73) (ca 81) (ca 82) = if a2 = (3 : Int32) then some (nI (cntB (mD X Y N z (ca 27) (ca 28) t.1 t.2.1).testBit 24), 0) else (if a2 = 0 then (some (nI t.1, (0 : Int32))) else (if a2 = (1 : Int32) then (some (nI t.2.1, (0 : Int32))) else (some (nI t.2.2, (0 : Int32))))) := fun c => by
        have ex : nI t.1 + nI (rad z) - 1 = nI (t.1 + (rad z - 1)) := by rw [nI_add, nI_s1 (by omega)]; congr 1; omega
        have ey : nI t.2.1 + nI (rad z) - 1 = nI (t.2.1 + (rad z - 1)) := by rw [nI_add, nI_s1 (by omega)]; congr 1; omega
        have em : mX9_pointsIn F (nI t.1) (nI (t.1 + (rad z - 1))) (nI t.2.1) (nI (t.2.1 + (rad z - 1))) (nI N) (ca 81) (ca 82) = some (nI (mD X Y N z (ca 27) (ca 28) t.1 t.2.1)) := by
          rw [within9 (by omega) hN, mD_congr (rows_eq r1 r2)]
          rfl
        have b9 := bits9 (F := F) (by omega) (show mD X Y N z (ca 27) (ca 28) t.1 t.2.1 < 2 ^ 31 from mk_lt31 _ (by omega))
        unfold mX9_densest
        rw [z9, Option.bind_some, if_neg (by rw [k0T]; exact id), i15, if_neg n8, i9', decide_eq_true c, Option.bind_some, if_neg (by rw [k0T]; exact id), d9, Option.bind_some]
        simp only [enc9, radius9 hz, Option.bind_some, ex, ey, em, b9]
      by_cases q0 : a2 = 0
      · subst q0
        have q3 : ¬ (0 : Int32) = 3 := by decide +kernel
        refine fin _ pre8 ?_
        rw [pre9 (by rw [i_0]; omega), if_neg q3, if_pos rfl]
      · by_cases q1 : a2 = 1
        · subst q1
          have q3 : ¬ (1 : Int32) = 3 := by decide +kernel
          refine fin _ pre8 ?_
          rw [pre9 (by rw [i_1]; omega), if_neg q3, if_neg q0, if_pos rfl]
        · by_cases q2 : a2 = 2
          · subst q2
            have q3 : ¬ (2 : Int32) = 3 := by decide +kernel
            refine fin _ pre8 ?_
            rw [pre9 (by rw [i_2]; omega), if_neg q3, if_neg q0, if_neg q1]
          · by_cases q3 : a2 = 3
            · subst q3
              have b8 := bitCnt_n (show mD X Y N z (ca 27) (ca 28) t.1 t.2.1 < 2 ^ 24 from mk24 hN)
              refine fin _ pre8 ?_
              rw [pre9 (by rw [i_3]; omega), if_pos rfl, b8]
            · have no : ¬ (0 ≤ a2.toInt ∧ a2.toInt ≤ 3) := by
                intro q
                have e0 : a2.toInt ≠ 0 := fun e => q0 (tI_ext (by rw [e, i_0]))
                have e1 : a2.toInt ≠ 1 := fun e => q1 (tI_ext (by rw [e, i_1]))
                have e2 : a2.toInt ≠ 2 := fun e => q2 (tI_ext (by rw [e, i_2]))
                have e3 : a2.toInt ≠ 3 := fun e => q3 (tI_ext (by rw [e, i_3]))
                omega
              refine fin (-1) ?_ ?_
              · rw [pre8, if_neg q0, if_neg q1, if_neg q2, if_neg q3]
              · unfold mX9_densest
                rw [z9, Option.bind_some, if_neg (by rw [k0T]; exact id), i15, if_neg n8, i9', decide_eq_false no, Option.bind_some, if_pos (by rw [k0F]; trivial)]
  · refine fin (-1) ?_ ?_
    · unfold mX8_densest
      rw [isZoom8, decide_eq_false hz, Option.bind_some, if_pos (by rw [k0F]; trivial)]
    · unfold mX9_densest
      rw [isZoom9, decide_eq_false hz, Option.bind_some, if_pos (by rw [k0F]; trivial)]
