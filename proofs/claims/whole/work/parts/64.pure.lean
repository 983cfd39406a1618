/-! ===== PURE 55: the reference goes along ===== -/
/-- whether one is reached without going back -/
def SUB (X Y : Nat → Nat) (N x : Nat) (o : Option Nat) (v : Nat) : Prop := ∀ f, o = some f → dlB X Y N f v = dlB X Y N x v + 1
def WAY (X Y : Nat → Nat) (N x y b : Nat) (arr : Nat → Int32) : Prop :=
  ∃ w : Nat → Nat, (∀ i, i ≤ dlB X Y N x y → arr (b + i) = nI (w i) ∧ w i < N ∧ dlB X Y N x (w i) = i ∧ dlB X Y N (w i) y + i = dlB X Y N x y) ∧ ∀ i, i < dlB X Y N x y → ∃ l, adT X Y N (w i) (w (i + 1)) l
theorem ne_oI {z : Nat} {o : Option Nat} (hz : z < 100) (ho : ∀ f, o = some f → f < 100) : (nI z = oI o) = (o = some z) := by
  cases o with
  | none =>
    show (nI z = -1) = _
    rw [nI_m1 (by omega)]
    exact (eq_false (fun h => by cases h)).symm
  | some f =>
    have := ho f rfl
    show (nI z = nI f) = _
    rw [nI_eqE (by omega) (by omega)]
    exact propext ⟨fun h => by rw [h], fun h => by cases h; rfl⟩
theorem goes_j {F N d b k x y z : Nat} {o : Option Nat} {X Y : Nat → Nat} {first second t : Nat → Int32} (hN : N ≤ 24) (hk : k < N - 1) (hx : x < N)
    (h1 : first k = nI (fP (KK X Y N) k) ∧ second k = nI (fQ (KK X Y N) k)) (hz : OB (fP (KK X Y N) k) (fQ (KK X Y N) k) x z) (ho : ∀ f, o = some f → f < 100) :
    mX9_goesAlong_b30 F (mX9_goesAlong F d) (nI x) (nI y) (oI o) (nI N) first second (nI k) (nI b) t =
      if o = some z then some (.inl (nI (k + 1), nI b, t)) else (mX9_goesAlong F d (nI z) (nI y) (nI x) (nI N) (nI b) first second t).bind fun r13 => if r13.1 = 0 then (some (.inl (nI (k + 1), r13.2.1, r13.2.2))) else (some (.inr ((1 : Int32), r13.2.1, r13.2.2))) := by
  have ⟨ha, hb⟩ := KK_lt (X := X) (Y := Y) hN hk
  have ez : fP (KK X Y N) k + fQ (KK X Y N) k - x = z := by rcases hz with ⟨e1, e2⟩ | ⟨e1, e2⟩ <;> omega
  have hz2 : z < 100 := by rcases hz with ⟨e1, e2⟩ | ⟨e1, e2⟩ <;> omega
  have ej : mX9_goesAlong_j64 F (mX9_goesAlong F d) (nI x) (nI y) (oI o) (nI N) first second (nI k) (nI b) t = if o = some z then some (.inl (nI (k + 1), nI b, t)) else (mX9_goesAlong F d (nI z) (nI y) (nI x) (nI N) (nI b) first second t).bind fun r13 => if r13.1 = 0 then (some (.inl (nI (k + 1), r13.2.1, r13.2.2))) else (some (.inr ((1 : Int32), r13.2.1, r13.2.2))) := by
    unfold mX9_goesAlong_j64
    rw [rdI_n (by omega) (by omega), Option.bind_some, rdI_n (by omega) (by omega), Option.bind_some, h1.1, h1.2, nI_add, pk_sub (by rcases hz with ⟨e1, e2⟩ | ⟨e1, e2⟩ <;> omega), ez, Option.bind_some, nI_1]
    by_cases q : o = some z
    · rw [if_pos (by rw [ne_oI hz2 ho]; exact q), if_pos q]
    · rw [if_neg (by rw [ne_oI hz2 ho]; exact q), if_neg q]
  unfold mX9_goesAlong_b30
  rw [joins9 hN, Option.bind_some, if_neg (show ¬ nI (N - 1) ≤ nI k by rw [nI_leE (by omega) (by omega)]; omega), rdI_n (by omega) (by omega), Option.bind_some, h1.1]
  by_cases q : fP (KK X Y N) k = x
  · rw [if_pos (by rw [q]), ej]
  · rw [if_neg (by rw [nI_eqE (by omega) (by omega)]; exact q), rdI_n (by omega) (by omega), Option.bind_some, h1.2, if_pos (by rcases hz with ⟨e1, e2⟩ | ⟨e1, e2⟩; exact absurd e1.symm q; rw [e1]), ej]
theorem goes_n {F N d b k x y : Nat} {o : Option Nat} {X Y : Nat → Nat} {first second t : Nat → Int32} (hN : N ≤ 24) (hk : k < N - 1) (hx : x < N)
    (h1 : first k = nI (fP (KK X Y N) k) ∧ second k = nI (fQ (KK X Y N) k)) (hz : ¬ (fP (KK X Y N) k = x ∨ fQ (KK X Y N) k = x)) :
    mX9_goesAlong_b30 F (mX9_goesAlong F d) (nI x) (nI y) (oI o) (nI N) first second (nI k) (nI b) t = some (.inl (nI (k + 1), nI b, t)) := by
  have ⟨ha, hb⟩ := KK_lt (X := X) (Y := Y) hN hk
  unfold mX9_goesAlong_b30
  rw [joins9 hN, Option.bind_some, if_neg (show ¬ nI (N - 1) ≤ nI k by rw [nI_leE (by omega) (by omega)]; omega), rdI_n (by omega) (by omega), Option.bind_some, h1.1, if_neg (by rw [nI_eqE (by omega) (by omega)]; exact fun g => hz (Or.inl g)),
    rdI_n (by omega) (by omega), Option.bind_some, h1.2, if_neg (by rw [nI_eqE (by omega) (by omega)]; exact fun g => hz (Or.inr g)), nI_1]
theorem goes9 {F N : Nat} {X Y : Nat → Nat} {first second : Nat → Int32} (hF : 1000 ≤ F) (hN : N ≤ 24) (h1 : ∀ j, j < N - 1 → first j = nI (fP (KK X Y N) j) ∧ second j = nI (fQ (KK X Y N) j)) :
    ∀ d b x y o way, d + b = 30 → x < N → y < N → (∀ f, o = some f → ∃ l, adT X Y N f x l) → (∀ v, v < N → SUB X Y N x o v → b + dlB X Y N x v ≤ 23) →
    ∃ r, mX9_goesAlong F d (nI x) (nI y) (oI o) (nI N) (nI b) first second way = some r ∧ (∀ i, i < b → r.2.2 i = way i) ∧
      ((SUB X Y N x o y ∧ r.1 = 1 ∧ r.2.1 = nI (b + dlB X Y N x y + 1) ∧ WAY X Y N x y b r.2.2) ∨ (¬ SUB X Y N x o y ∧ r.1 = 0 ∧ r.2.1 = nI b)) := by
  obtain ⟨⟨es, et⟩, ⟨d0, dz, ds, dt⟩, ae, a1, a2, a3, a4⟩ := for_all (X := X) (Y := Y) hN
  intro d
  induction d with
  | zero =>
    intro b x y o way hd hx hy ho hS
    have z := (d0 x ⟨hx, hx⟩).1
    have := hS x hx (fun f hf => by
      obtain ⟨l, hl⟩ := ho f hf
      have := a1 f x l x hl ⟨(ae f x l hl).1.1, hx⟩
      omega)
    omega
  | succ d ih =>
    intro b x y o way hd hx hy ho hS
    have z := (d0 x ⟨hx, hx⟩).1
    have zx := z
    have sx : SUB X Y N x o x := fun f hf => by
      obtain ⟨l, hl⟩ := ho f hf
      have := a1 f x l x hl ⟨(ae f x l hl).1.1, hx⟩
      omega
    have hb := hS x hx sx
    have ho2 : ∀ f, o = some f → f < 100 := fun f hf => by
      obtain ⟨l, hl⟩ := ho f hf
      have := (ae f x l hl).1.1
      omega
    have wi : ∀ i, i < b → upd way b (nI x) i = way i := fun i hi => if_neg (by omega)
    have wb : upd way b (nI x) b = nI x := if_pos rfl
    unfold mX9_goesAlong
    rw [wrI_n (by omega) (by omega), Option.bind_some, Option.bind_some, nI_1]
    by_cases q : x = y
    · rw [if_pos (by rw [q])]
      refine ⟨_, rfl, wi, Or.inl ⟨by rw [← q]; exact sx, rfl, ?_, fun _ => x, fun i hi => ?_, fun i hi => ?_⟩⟩
      · show nI (b + 1) = _
        rw [← q, z]
      · rw [← q, z] at hi ⊢
        have i0 : i = 0 := by omega
        rw [i0]
        exact ⟨wb, hx, rfl, rfl⟩
      · rw [← q, z] at hi
        omega
    · rw [if_neg (by rw [nI_eqE (by omega) (by omega)]; exact q)]
      /- who stands behind x seen from where one came -/
      have sub : ∀ z l, adT X Y N x z l → ¬ o = some z → ∀ v, v < N → dlB X Y N x v = dlB X Y N z v + 1 → SUB X Y N x o v := by
        intro z l hl hne v hv e f hf
        obtain ⟨l', hl'⟩ := ho f hf
        have t := ae f x l' hl'
        rcases a1 f x l' v hl' ⟨t.1.1, hv⟩ with g | g
        · exact g
        · have := a2 x f l' z l v t.2 hl ⟨hx, hv⟩ g.symm e.symm
          rw [this] at hf
          exact absurd hf hne
      refine lpX (body := fun s30 : Int32 × Int32 × (Nat → Int32) => mX9_goesAlong_b30 F (mX9_goesAlong F d) (nI x) (nI y) (oI o) (nI N) first second s30.1 s30.2.1 s30.2.2) (F := F)
        (fun k (t : Nat → Int32) => (nI k, nI (b + 1), t)) (fun k t => (∀ i, i < b + 1 → t i = upd way b (nI x) i) ∧ (SUB X Y N x o y → ∀ j z, j < k → OB (fP (KK X Y N) j) (fQ (KK X Y N) j) x z → ¬ dlB X Y N z y + 1 = dlB X Y N x y))
        (fun r => (∀ i, i < b → r.2.2 i = way i) ∧ ((SUB X Y N x o y ∧ r.1 = 1 ∧ r.2.1 = nI (b + dlB X Y N x y + 1) ∧ WAY X Y N x y b r.2.2) ∨ (¬ SUB X Y N x o y ∧ r.1 = 0 ∧ r.2.1 = nI b)))
        0 (N - 1) (upd way b (nI x)) (by omega) (s0 := ((0 : Int32), nI (b + 1), upd way b (nI x))) rfl ⟨fun _ _ => rfl, fun _ j z hj => absurd hj (Nat.not_lt_zero j)⟩ (fun k t _ hk hI => ?_) (fun t hI => ?_) (by omega)
      · have hj := h1 k hk
        by_cases c : fP (KK X Y N) k = x ∨ fQ (KK X Y N) k = x
        · have ⟨z, hz⟩ : ∃ z, OB (fP (KK X Y N) k) (fQ (KK X Y N) k) x z := by
            rcases c with c | c
            · exact ⟨_, Or.inl ⟨c.symm, rfl⟩⟩
            · exact ⟨_, Or.inr ⟨c.symm, rfl⟩⟩
          have hl : adT X Y N x z (RR X Y N k) := ⟨k, hk, rfl, hz⟩
          have hzN := (ae x z _ hl).1.2
          have bd := goes_j (F := F) (d := d) (b := b + 1) (y := y) (o := o) (t := t) hN hk hx hj hz ho2
          have only : ∀ j z', j < k + 1 → OB (fP (KK X Y N) j) (fQ (KK X Y N) j) x z' → j < k ∨ z' = z := fun j z' hj' g => by
            rcases Nat.lt_succ_iff_lt_or_eq.mp hj' with e | e
            · exact Or.inl e
            · rw [e] at g
              rcases ob_two hz g with ⟨_, e2⟩ | ⟨e1, e2⟩
              · exact Or.inr e2
              · exact Or.inr (by omega)
          by_cases c2 : o = some z
          · rw [if_pos c2] at bd
            refine Or.inl ⟨t, bd, hI.1, fun hs j z' hj' g => ?_⟩
            rcases only j z' hj' g with e | e
            · exact hI.2 hs j z' e g
            · have := hs z c2
              rw [e]
              omega
          · rw [if_neg c2] at bd
            obtain ⟨r, er, pr, cs⟩ := ih (b + 1) z y (some x) t (by omega) hzN hy (fun f hf => by cases hf; exact ⟨_, hl⟩) (fun v hv g => by
              have e := g x rfl
              have := hS v hv (sub z _ hl c2 v hv e)
              omega)
            have er2 : mX9_goesAlong F d (nI z) (nI y) (nI x) (nI N) (nI (b + 1)) first second t = some r := er
            rw [er2, Option.bind_some] at bd
            rcases cs with ⟨s1, s2, s3, w, s4, s5⟩ | ⟨s1, s2, s3⟩
            · have e := s1 x rfl
              rw [if_neg (by rw [s2]; decide)] at bd
              refine Or.inr ⟨_, bd, fun i hi => ?_, Or.inl ⟨sub z _ hl c2 y hy e, rfl, ?_, fun i => if i = 0 then x else w (i - 1), fun i hi => ?_, fun i hi => ?_⟩⟩
              · show r.2.2 i = way i
                rw [pr i (by omega), hI.1 i (by omega), wi i hi]
              · show r.2.1 = _
                rw [s3]
                congr 1
                omega
              · show r.2.2 (b + i) = nI (if i = 0 then x else w (i - 1)) ∧ (if i = 0 then x else w (i - 1)) < N ∧ dlB X Y N x (if i = 0 then x else w (i - 1)) = i ∧ dlB X Y N (if i = 0 then x else w (i - 1)) y + i = dlB X Y N x y
                by_cases c3 : i = 0
                · rw [if_pos c3, c3]
                  refine ⟨?_, hx, zx, by omega⟩
                  show r.2.2 (b + 0) = nI x
                  rw [pr (b + 0) (by omega), hI.1 (b + 0) (by omega)]
                  exact wb
                · rw [if_neg c3]
                  have ⟨k1, k2, k3, k4⟩ := s4 (i - 1) (by omega)
                  rw [show b + 1 + (i - 1) = b + i by omega] at k1
                  have k5 := a1 x z _ (w (i - 1)) hl ⟨hx, k2⟩
                  have k6 := dt x (w (i - 1)) y ⟨hx, k2⟩ ⟨k2, hy⟩
                  exact ⟨k1, k2, by omega, by omega⟩
              · show ∃ l, adT X Y N (if i = 0 then x else w (i - 1)) (if i + 1 = 0 then x else w (i + 1 - 1)) l
                rw [if_neg (show ¬ i + 1 = 0 by omega), Nat.add_sub_cancel]
                by_cases c3 : i = 0
                · rw [if_pos c3, c3]
                  have ⟨k1, k2, k3, k4⟩ := s4 0 (by omega)
                  rw [← dz z (w 0) ⟨hzN, k2⟩ k3]
                  exact ⟨_, hl⟩
                · rw [if_neg c3]
                  have := s5 (i - 1) (by omega)
                  rw [show i - 1 + 1 = i by omega] at this
                  exact this
            · rw [if_pos s2, s3] at bd
              refine Or.inl ⟨r.2.2, bd, fun i hi => by rw [pr i hi, hI.1 i hi], fun hs j z' hj' g => ?_⟩
              rcases only j z' hj' g with e | e
              · exact hI.2 hs j z' e g
              · rw [e]
                exact fun g2 => s1 (fun f hf => by cases hf; exact g2.symm)
        · refine Or.inl ⟨t, goes_n hN hk hx hj c, hI.1, fun hs j z' hj' g => ?_⟩
          rcases Nat.lt_succ_iff_lt_or_eq.mp hj' with e | e
          · exact hI.2 hs j z' e g
          · rw [e] at g
            exact absurd (by rcases g with ⟨g1, _⟩ | ⟨g1, _⟩; exact Or.inl g1.symm; exact Or.inr g1.symm) c
      · refine ⟨(0, nI b, t), ?_, fun i hi => ?_, Or.inr ⟨fun hs => ?_, rfl, rfl⟩⟩
        · show mX9_goesAlong_b30 F (mX9_goesAlong F d) (nI x) (nI y) (oI o) (nI N) first second (nI (N - 1)) (nI (b + 1)) t = _
          unfold mX9_goesAlong_b30
          rw [joins9 hN, Option.bind_some, if_pos (show nI (N - 1) ≤ nI (N - 1) by rw [nI_leE (by omega) (by omega)]; omega), Option.bind_some, nI_pred]
        · show t i = way i
          rw [hI.1 i (by omega), wi i hi]
        · obtain ⟨z, l, ⟨j, hj, _, hz⟩, e⟩ := a3 x y ⟨hx, hy⟩ q
          exact hI.2 hs j z hj hz e
/-- the whole way -/
theorem goesAll9 {F N x y : Nat} {X Y : Nat → Nat} {first second : Nat → Int32} (hF : 1000 ≤ F) (hN : N ≤ 24) (h1 : ∀ j, j < N - 1 → first j = nI (fP (KK X Y N) j) ∧ second j = nI (fQ (KK X Y N) j)) (hx : x < N) (hy : y < N) (way : Nat → Int32) :
    ∃ r, mX9_goesAlong F 30 (nI x) (nI y) (-1 : Int32) (nI N) (0 : Int32) first second way = some r ∧ r.2.1 = nI (dlB X Y N x y + 1) ∧ WAY X Y N x y 0 r.2.2 := by
  obtain ⟨r, e, _, c⟩ := goes9 (X := X) (Y := Y) hF hN h1 30 0 x y none way rfl hx hy (fun f hf => by cases hf) (fun v hv _ => by
    have := for_bd (for_all (X := X) (Y := Y) hN) (N := N) (fun x y h => h.2) (x := x) (y := v) ⟨hx, hv⟩
    omega)
  refine ⟨r, e, ?_⟩
  rcases c with ⟨_, _, c2, c3⟩ | ⟨c1, _⟩
  · rw [Nat.zero_add] at c2
    exact ⟨c2, c3⟩
  · exact absurd (fun f hf => by cases hf) c1
