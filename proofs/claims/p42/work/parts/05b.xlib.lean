/-! ===== calls that are given the law's script ===== -/
def Xs (X : GX) (b L : Nat) (xs : Nat → Int32) : Prop := match X with
  | (_, _, _, _, s, _, _, _, _, _, A, _, _, _, _, _) => va_X b L xs s s.heap ∧ b < s.heap.size ∧ ¬ A b
abbrev KPx (D : va_G) (tys : List (ClassId × FieldType)) (av : List Value) (W0 : va_W) (sz b L : Nat) (xs : Nat → Int32) : Array Value → State → Prop := fun a U => KPc D tys av W0 sz a U ∧ va_X b L xs U U.heap ∧ b < U.heap.size ∧ ¬ va_A W0 sz b
theorem KPx_blind {D : va_G} {tys : List (ClassId × FieldType)} {av : List Value} {W0 : va_W} {sz b L : Nat} {xs : Nat → Int32} : FrameBlind (KPx D tys av W0 sz b L xs) := fun a U g mk q => ⟨KPc_blind a U g mk q.1, va_X.moved (u := U) (U := U.calling g mk a) (Vm.Alike.refl U.vm) q.2.1, q.2.2.1, q.2.2.2⟩
def Cix (D : va_G) (tys : List (ClassId × FieldType)) (l : Launch) (y : MethodName) (ws : List Cond) (rm : Room) (av : List Value) (r : Int32) (b L : Nat) (xs : Nat → Int32) (W0 W1 : va_W) : Prop :=
  ∀ sz : Nat, Met l y ws rm (KPx D tys av W0 sz b L xs) (va_Qi (fun (x : Int32) (_ : Unit) => x = r) (fun _ t => KB D tys W0 sz W1 t) (va_A W0 sz)) 0 0 (va_A W0 sz)
def Cvx (D : va_G) (tys : List (ClassId × FieldType)) (l : Launch) (y : MethodName) (ws : List Cond) (rm : Room) (av : List Value) (b L : Nat) (xs : Nat → Int32) (W0 W1 : va_W) : Prop :=
  ∀ sz : Nat, Met l y ws rm (KPx D tys av W0 sz b L xs) (va_Qv (fun _ : Unit => True) (fun _ t => KB D tys W0 sz W1 t) (va_A W0 sz)) 0 0 (va_A W0 sz)
theorem Cix.ofi {D : va_G} {tys : List (ClassId × FieldType)} {l : Launch} {y : MethodName} {ws ws' : List Cond} {rm : Room} {av : List Value} {r : Int32} {b L : Nat} {xs : Nat → Int32} {W0 W1 : va_W} (cc : ByteArray) (maxL : Nat) {own : String} (hy : plainName y.cls = true) (hw : ws = Cond.code y cc maxL (some .int) :: ws') (hown : y.cls = own) (hlen : (lg_sl av).length ≤ maxL)
    (body : ∀ X : GX, Sx X cc ws own maxL rm tys D l → Xs X b L xs → (∀ (pc : Nat) (lv : List (Nat × Value)), decode cc pc = .ok (.ireturn, 1) → G X pc lv [.int r] W1) → G X 0 (lv_args 0 av) [] W0) : Cix D tys l y ws rm av r b L xs W0 W1 := by
  intro sz
  refine Met.ofW (cc := cc) (maxL := maxL) (ret := (some .int)) hy hw ?_
  intro p e s m args below meth c s₁ B hml hv
  obtain ⟨⟨rfl, hsz, hP, hK, hD0⟩, hX, hbl, hbA⟩ := hv
  have hx := B.exec
  have hb := B.bytes
  have hr := B.returns
  have hts := atoms_spec (ws := ws) B.pre
  have hown' : s.vm.findClass own = some m.cls := hown ▸ findClass_of_methodNamed B.named
  have hlocks := B.notSynchronized
  subst hsz
  have hD := hD0.self (sz := s.heap.size)
  have hl := lv_entry av (n := maxL) hlen
  rw [lg_entry_eq]
  refine body (p, l, e, (headSpec ws rm).room, s, m, av.toArray, below, meth, c, va_A W0 s.heap.size, MQ below (va_Qi (fun (x : Int32) (_ : Unit) => x = r) (fun _ t => KB D tys W0 s.heap.size W1 t) (va_A W0 s.heap.size)) av.toArray s 0 0 (va_A W0 s.heap.size), D, maxL, 0, 0) ⟨hx, hb, hml, hown', hts, hK, fun q h => Or.inr h, rfl, rfl, rfl, rfl, Nat.zero_le _, Nat.zero_le _⟩ ⟨hX, hbl, hbA⟩ ?_ s.heap [] _ hP hD va_S.rf hl
  intro pc lv hd H locs ls hP1 hD1 hS1 hl1
  exact W.iret (v := r) hx hb hr (fun t ht hW => ⟨⟨r, (), rfl, rfl, by rw [ht]; exact hP1, va_K.moved hW.alike hK, hD1⟩, hS1.F ht⟩) hS1.2.2 hd
theorem Cvx.ofv {D : va_G} {tys : List (ClassId × FieldType)} {l : Launch} {y : MethodName} {ws ws' : List Cond} {rm : Room} {av : List Value} {b L : Nat} {xs : Nat → Int32} {W0 W1 : va_W} (cc : ByteArray) (maxL : Nat) {own : String} (hy : plainName y.cls = true) (hw : ws = Cond.code y cc maxL none :: ws') (hown : y.cls = own) (hlen : (lg_sl av).length ≤ maxL)
    (body : ∀ X : GX, Sx X cc ws own maxL rm tys D l → Xs X b L xs → (∀ (pc : Nat) (lv : List (Nat × Value)), decode cc pc = .ok (.return_, 1) → G X pc lv [] W1) → G X 0 (lv_args 0 av) [] W0) : Cvx D tys l y ws rm av b L xs W0 W1 := by
  intro sz
  refine Met.ofW (cc := cc) (maxL := maxL) (ret := none) hy hw ?_
  intro p e s m args below meth c s₁ B hml hv
  obtain ⟨⟨rfl, hsz, hP, hK, hD0⟩, hX, hbl, hbA⟩ := hv
  have hx := B.exec
  have hb := B.bytes
  have hr := B.returns
  have hts := atoms_spec (ws := ws) B.pre
  have hown' : s.vm.findClass own = some m.cls := hown ▸ findClass_of_methodNamed B.named
  have hlocks := B.notSynchronized
  subst hsz
  have hD := hD0.self (sz := s.heap.size)
  have hl := lv_entry av (n := maxL) hlen
  rw [lg_entry_eq]
  refine body (p, l, e, (headSpec ws rm).room, s, m, av.toArray, below, meth, c, va_A W0 s.heap.size, MQ below (va_Qv (fun _ : Unit => True) (fun _ t => KB D tys W0 s.heap.size W1 t) (va_A W0 s.heap.size)) av.toArray s 0 0 (va_A W0 s.heap.size), D, maxL, 0, 0) ⟨hx, hb, hml, hown', hts, hK, fun q h => Or.inr h, rfl, rfl, rfl, rfl, Nat.zero_le _, Nat.zero_le _⟩ ⟨hX, hbl, hbA⟩ ?_ s.heap [] _ hP hD va_S.rf hl
  intro pc lv hd H locs ls hP1 hD1 hS1 hl1
  exact W.vret hx hb hr (fun t ht hW => ⟨⟨(), rfl, trivial, by rw [ht]; exact hP1, va_K.moved hW.alike hK, hD1⟩, hS1.F ht⟩) hS1.2.2 hd
section GX2
variable {X : GX} {cc : ByteArray} {Ts : List Cond} {own : String} {nl : Nat} {rm : Room} {tys : List (ClassId × FieldType)} {D0 : va_G} {l0 : Launch} {pc : Nat} {lv : List (Nat × Value)} {st : List Value} {ws : va_W} {b L : Nat} {xs : Nat → Int32}
variable {y : MethodName} {wsc : List Cond} {rmc : Room} {As rest : List Value} {Wc Wc' wr : va_W} {C : String} {n maxL idx : Nat}
theorem r_sld {i : Int32} (hXs : Xs X b L xs) (S : Sx X cc Ts own nl rm tys D0 l0) (hin : vp_in i L) (hd : decode cc pc = .ok (.iaload, 1)) (k : G X (pc + 1) lv (.int (xs i.toInt.toNat) :: st) ws) : G X pc lv (.int i :: .ref b :: st) ws := by
  obtain ⟨p, l, e, R, s, m, args, below, meth, c, A, Q, D, nL, kc, ks⟩ := X
  obtain ⟨hx, hb, hml, hown, hts, hK, hA, rfl, rfl, rfl, rfl, hkc, hks⟩ := S
  obtain ⟨hX, hbl, hbA⟩ := hXs
  intro H locs ls hP hD hS hl
  exact va_sld hx hb hX hbl hbA hS hin hd (k H locs ls hP hD hS hl)
theorem r_slen (hXs : Xs X b L xs) (S : Sx X cc Ts own nl rm tys D0 l0) (hd : decode cc pc = .ok (.arraylength, 1)) (k : G X (pc + 1) lv (.int (nI L) :: st) ws) : G X pc lv (.ref b :: st) ws := by
  obtain ⟨p, l, e, R, s, m, args, below, meth, c, A, Q, D, nL, kc, ks⟩ := X
  obtain ⟨hx, hb, hml, hown, hts, hK, hA, rfl, rfl, rfl, rfl, hkc, hks⟩ := S
  obtain ⟨hX, hbl, hbA⟩ := hXs
  intro H locs ls hP hD hS hl
  exact va_slen hx hb hX hbl hbA hS hd (k H locs ls hP hD hS hl)
theorem r_lookup {x : Int32} {dflt : Int} {ps : Array (Int × Int)} {len : Nat} {off : Int} (tgt : Nat) (S : Sx X cc Ts own nl rm tys D0 l0) (hd : decode cc pc = .ok (.lookupswitch dflt ps, len)) (hp : (ps.toList.zip (ps.toList.drop 1)).all (fun (a, next) => a.1 < next.1) = true) (ho : Op.lookupswitch.offset ps.toList dflt x.toInt = off) (ht : (pc : Int) + off = (tgt : Int)) (k : G X tgt lv st ws) : G X pc lv (.int x :: st) ws := r_pure S (fun hx hb _ kk => lv_lookup hx hb hd hp ho ht kk) k
theorem A0_old {A : Nat → Prop} {H0 H : Heap} {locs : List Loc} (hS : va_S A H0 H locs) (hA : ∀ q, H0.size ≤ q → A q) : ∀ q, va_A [] H.size q → A q := by
  intro q h
  rcases h with ⟨k, e, h⟩ | h
  · simp at h
  · exact hA q (Nat.le_trans hS.1 h)
theorem A0_not {H : Heap} {q : Nat} (h : q < H.size) : ¬ va_A [] H.size q := by
  intro g
  rcases g with ⟨k, e, g⟩ | g
  · simp at g
  · omega
/-- a static call that sees the script and no cell -/
theorem r_cix {r : Int32} (S : Sx X cc Ts own nl rm tys D0 l0) (hXs : Xs X b L xs) (hC : Cix D0 tys l0 y wsc rmc As r b L xs [] []) (hT : GoodIn Ts (va_wsS own idx y wsc)) (hok : CallOK y wsc C n maxL) (hrc : rmc.cells = 0 ∧ rmc.slots = 0) (hR : rmc.frames + 1 ≤ rm.frames ∧ 8 + (maxL + 11) + rmc.locals ≤ rm.locals) (hst : st = As.reverse ++ rest) (hn : As.length = n) (hcat : (rest.map fun v => v.category).sum ≤ 8) (hd : decode cc pc = .ok (.invokestatic idx, 3)) (k : G X (pc + 3) lv (.int r :: rest) ws) : G X pc lv st ws := by
  obtain ⟨p, l, e, R, s, m, args, below, meth, c, A, Q, D, nL, kc, ks⟩ := X
  obtain ⟨hx, hb, hml, hown, hts, hK, hA, rfl, rfl, rfl, rfl, hkc, hks⟩ := S
  obtain ⟨hX, hbl, hbA⟩ := hXs
  intro H locs ls hP hD hS hl
  subst hst
  obtain ⟨⟨bytes, ret, wsr, hws⟩, hcls, hmh, hpar⟩ := hok
  have hF := A0_old hS hA
  have hbH : b < H.size := Nat.lt_of_lt_of_le hbl hS.1
  refine va_calli (va_runS (As := As) (rest := rest) ⟨hx, hb, hml, hown, hts⟩ (hC H.size) (va_cwS n hts hT hws hrc.1 hrc.2 ⟨hmh.1, hmh.2, hpar⟩ hR) ⟨KPx_blind, fun U hU hW => ⟨⟨rfl, by rw [hU], fun k q h => by simp at h, va_K.moved hW.alike hK, ⟨fun i j p q h => by simp at h, fun k q h => by simp at h⟩⟩, by rw [hU]; exact va_X.moved hW.alike (va_X.kept hX (hS.2.1 b hbl hbA)), by rw [hU]; exact hbH, A0_not hbH⟩⟩ rfl hn hl.1 rfl (lv_room hcat) hd ⟨hkc, hks⟩) hS (fun q _ h => hF q h) hF (fun r9 u t H1 locs1 ht hvm hw hB hz1 hk1 hS1 => ?_)
  cases hw
  exact k H1 locs1 ls (hP.kept (fun k q hq => hk1 q.1 (hP k q hq).lt (A0_not (hP k q hq).lt))) hD hS1 hl
/-- a static call that sees no cell -/
theorem r_ci0 {r : Int32} (S : Sx X cc Ts own nl rm tys D0 l0) (hC : Ci D0 tys l0 y wsc rmc As r [] []) (hT : GoodIn Ts (va_wsS own idx y wsc)) (hok : CallOK y wsc C n maxL) (hrc : rmc.cells = 0 ∧ rmc.slots = 0) (hR : rmc.frames + 1 ≤ rm.frames ∧ 8 + (maxL + 11) + rmc.locals ≤ rm.locals) (hst : st = As.reverse ++ rest) (hn : As.length = n) (hcat : (rest.map fun v => v.category).sum ≤ 8) (hd : decode cc pc = .ok (.invokestatic idx, 3)) (k : G X (pc + 3) lv (.int r :: rest) ws) : G X pc lv st ws := by
  obtain ⟨p, l, e, R, s, m, args, below, meth, c, A, Q, D, nL, kc, ks⟩ := X
  obtain ⟨hx, hb, hml, hown, hts, hK, hA, rfl, rfl, rfl, rfl, hkc, hks⟩ := S
  intro H locs ls hP hD hS hl
  subst hst
  obtain ⟨⟨bytes, ret, wsr, hws⟩, hcls, hmh, hpar⟩ := hok
  have hF := A0_old hS hA
  refine va_calli (va_runS (As := As) (rest := rest) ⟨hx, hb, hml, hown, hts⟩ (hC H.size) (va_cwS n hts hT hws hrc.1 hrc.2 ⟨hmh.1, hmh.2, hpar⟩ hR) ⟨KPc_blind, fun U hU hW => ⟨rfl, by rw [hU], fun k q h => by simp at h, va_K.moved hW.alike hK, ⟨fun i j p q h => by simp at h, fun k q h => by simp at h⟩⟩⟩ rfl hn hl.1 rfl (lv_room hcat) hd ⟨hkc, hks⟩) hS (fun q _ h => hF q h) hF (fun r9 u t H1 locs1 ht hvm hw hB hz1 hk1 hS1 => ?_)
  cases hw
  exact k H1 locs1 ls (hP.kept (fun k q hq => hk1 q.1 (hP k q hq).lt (A0_not (hP k q hq).lt))) hD hS1 hl
/-- a static call without an answer that sees the script and cells -/
theorem r_cvx {ws' : va_W} (S : Sx X cc Ts own nl rm tys D0 l0) (hXs : Xs X b L xs) (hC : Cvx D0 tys l0 y wsc rmc As b L xs Wc Wc') (hT : GoodIn Ts (va_wsS own idx y wsc)) (hok : CallOK y wsc C n maxL) (hrc : rmc.cells = 0 ∧ rmc.slots = 0) (hR : rmc.frames + 1 ≤ rm.frames ∧ 8 + (maxL + 11) + rmc.locals ≤ rm.locals) (isC isR : List Nat) (hCs : isC.map (fun i => ws[i]?) = Wc.map some) (hRs : isR.map (fun i => ws[i]?) = wr.map some) (hnC : va_nd isC = true) (hnR : va_nd isR = true) (hdis : ∀ i ∈ isR, i ∉ isC) (hw9 : wr ++ Wc' = ws') (hst : st = As.reverse ++ rest) (hn : As.length = n) (hcat : (rest.map fun v => v.category).sum ≤ 8) (hd : decode cc pc = .ok (.invokestatic idx, 3)) (k : G X (pc + 3) lv (rest) ws') : G X pc lv st ws := by
  obtain ⟨p, l, e, R, s, m, args, below, meth, c, A, Q, D, nL, kc, ks⟩ := X
  obtain ⟨hx, hb, hml, hown, hts, hK, hA, rfl, rfl, rfl, rfl, hkc, hks⟩ := S
  obtain ⟨hX, hbl, hbA⟩ := hXs
  intro H locs ls hP hD hS hl
  subst hst
  subst hw9
  obtain ⟨⟨bytes, ret, wsr, hws⟩, hcls, hmh, hpar⟩ := hok
  have hPc := P_map isC hCs hP
  have hDc := hD.sub isC hnC hCs
  have hFc := va_free hD hS hA isC hCs
  have hbH : b < H.size := Nat.lt_of_lt_of_le hbl hS.1
  refine va_callv (va_runS (As := As) (rest := rest) ⟨hx, hb, hml, hown, hts⟩ (hC H.size) (va_cwS n hts hT hws hrc.1 hrc.2 ⟨hmh.1, hmh.2, hpar⟩ hR) ⟨KPx_blind, fun U hU hW => ⟨⟨rfl, by rw [hU], by rw [hU]; exact hPc, va_K.moved hW.alike hK, hDc.weaken (fun _ _ _ _ => trivial)⟩, by rw [hU]; exact va_X.moved hW.alike (va_X.kept hX (hS.2.1 b hbl hbA)), by rw [hU]; exact hbH, fun q => hbA (hFc b q)⟩⟩ rfl hn hl.1 rfl (lv_room hcat) hd ⟨hkc, hks⟩) hS (fun q _ h => hFc q h) hFc (fun u t H1 locs1 ht hvm hw hB hz1 hk1 hS1 => ?_)
  obtain ⟨hP1, hK1, hD1⟩ := hB
  rw [ht] at hP1
  obtain ⟨hP2, hD2⟩ := va_join hP hD isC isR hCs hRs hnR hdis hk1 hFc hP1 hD1
  exact k H1 locs1 ls hP2 hD2 hS1 hl
end GX2
