/-! ===== constructors: rows that make cells ===== -/
def setK (X : GX) (kc ks : Nat) : GX := match X with
  | (p, l, e, R, s, m, args, below, meth, c, A, Q, D, nL, _, _) => (p, l, e, R, s, m, args, below, meth, c, A, Q, D, nL, kc, ks)
def Xi (X : GX) : Prop := match X with
  | (_, _, _, _, _, _, _, _, meth, _, _, _, _, _, _, _) => meth.name = "<init>"
def Xo (X : GX) : Prop := match X with
  | (_, _, _, _, s, _, _, _, _, _, _, _, _, _, _, _) => (Cond.arrayOver (.array .int)).before #[] s = true
abbrev KPn (D : va_G) (tys : List (ClassId × FieldType)) (av : List Value) (W0 : va_W) (sz : Nat) : Array Value → State → Prop := va_Pc av (fun U => U.heap.size = sz ∧ va_P D vwCl W0 U.heap ∧ va_K D vwCl tys U ∧ va_D (fun _ => True) W0 ∧ (Cond.arrayOver (.array .int)).before #[] U = true)
def Cn {S : Type} (D : va_G) (tys : List (ClassId × FieldType)) (l : Launch) (y : MethodName) (ws : List Cond) (rm : Room) (a : Nat) (W0 : va_W) (WF : S → va_W) (mc ms : Nat) : Prop :=
  ∀ sz : Nat, Met l y ws rm (KPn D tys [.ref a] W0 sz) (va_Qv (fun _ : S => True) (fun u t => KB D tys W0 sz (WF u) t) (va_A W0 sz)) mc ms (va_A W0 sz)
theorem KPn_blind {D : va_G} {tys : List (ClassId × FieldType)} {av : List Value} {W0 : va_W} {sz : Nat} : FrameBlind (KPn D tys av W0 sz) := fun a U g mk q => by
  obtain ⟨q0, q1, qP, qK, qD, qO⟩ := q
  exact ⟨q0, q1, qP, va_K.moved (u := U) (U := U.calling g mk a) (Vm.Alike.refl U.vm) qK, qD, over_moved (u := U) (E := U.calling g mk a) (Vm.Alike.refl U.vm) qO⟩
section GN
variable {X : GX} {cc : ByteArray} {Ts : List Cond} {own : String} {nl : Nat} {rm : Room} {tys : List (ClassId × FieldType)} {D0 : va_G} {l0 : Launch} {pc : Nat} {lv : List (Nat × Value)} {st : List Value} {ws : va_W} {kc ks : Nat}
theorem Sx.set (S : Sx X cc Ts own nl rm tys D0 l0) (kc ks : Nat) (h1 : kc ≤ rm.cells) (h2 : ks ≤ rm.slots) : Sx (setK X kc ks) cc Ts own nl rm tys D0 l0 := by
  obtain ⟨p, l, e, R, s, m, args, below, meth, c, A, Q, D, nL, kc0, ks0⟩ := X
  obtain ⟨hx, hb, hml, hown, hts, hK, hA, e1, e2, e3, e4, hkc, hks⟩ := S
  exact ⟨hx, hb, hml, hown, hts, hK, hA, e1, e2, e3, e4, h1, h2⟩
theorem r_obj {idx a : Nat} (S : Sx X cc Ts own nl rm tys D0 l0) (h1 : Cond.methodLink own idx Lib.objectInit ∈ Ts) (h2 : Cond.instanceMethod Lib.objectInit ∈ Ts) (h3 : Cond.code Lib.objectInit ⟨#[0xb1]⟩ 1 none ∈ Ts) (hf : 1 ≤ rm.frames) (hlo : (st.map fun v => v.category).sum + 12 ≤ rm.locals) (hd : decode cc pc = .ok (.invokespecial idx, 3)) (k : G X (pc + 3) lv st ws) : G X pc lv (.ref a :: st) ws := by
  obtain ⟨p, l, e, R, s, m, args, below, meth, c, A, Q, D, nL, kc, ks⟩ := X
  obtain ⟨hx, hb, hml, hown, hts, hK, hA, rfl, rfl, rfl, rfl, hkc, hks⟩ := S
  intro H locs ls hP hD hS hl
  exact W.objInit hx hb hown (hts _ h1) (hts _ h2) (hts _ h3) (g := F0 m pc ls (.ref a :: st)) rfl (hl.1.trans hml.symm) rfl hd hf (by show 2 * 0 + _ + 12 ≤ _; omega) (k H locs ls hP hD hS hl)
theorem r_new {C : String} {T : u_T} {N ci index : Nat} {fs : List Value} (S : Sx X cc Ts own nl rm tys D0 l0) (hin : ∀ w ∈ u_ws C T N, w ∈ Ts) (ty : Nat → FieldType) (hty : ∀ k, k < N → parseFieldDescriptor (T k).2.2.1 = some (ty k)) (hcl : Cond.classLink own index C ∈ Ts) (hinst : Cond.instantiable C N ∈ Ts) (hini : Cond.initialized C ∈ Ts) (hc : vwCl[ci]? = some (C, T, N)) (hfs : ∀ j, j < N → defaultValue (ty j) = vp_V fs j) (hcells : kc + 1 ≤ rm.cells) (hslots : ks + N ≤ rm.slots) (hd : decode cc pc = .ok (.new index, 3)) (k : ∀ q : Nat, G (setK X (kc + 1) (ks + N)) (pc + 3) lv (.ref q :: st) (ws ++ [(q, .inr (ci, fs))])) : G (setK X kc ks) pc lv st ws := by
  obtain ⟨p, l, e, R, s, m, args, below, meth, c, A, Q, D, nL, kc0, ks0⟩ := X
  obtain ⟨hx, hb, hml, hown, hts, hK, hA, rfl, rfl, rfl, rfl, hkc, hks⟩ := S
  intro H locs ls hP hD hS hl
  exact va_new hx hb hts hin ty hty hown (hts _ hcl) (hts _ hinst) (hts _ hini) hK hP hD hS hA hc hfs hcells hslots hd (fun q H1 hP1 hD1 hS1 => k q H1 locs ls hP1 hD1 hS1 hl)
theorem r_newa {atype : ArrayType} {ty : FieldType} {n : Int32} {N' t0 : Nat} {cA : ClassId} {a0 : vp_A} (S : Sx X cc Ts own nl rm tys D0 l0) (harr : Cond.arrayClass (newarray.typeOf atype) ∈ Ts) (hty : newarray.typeOf atype = ty) (hRA : ∀ (U : State) (c1 c2 : ClassId), va_RA U c1 ty → va_RA U c2 ty → c1 = c2) (ht : tys[t0]? = some (cA, ty)) (ha : ∀ cA : ClassId, vp_cell cA a0 = arrV cA N' (fun _ => defaultValue ty)) (hn : ¬ n < 0) (hN : n.toNatClampNeg = N') (hbytes : N' * componentBytes ty ≤ 536870912) (hcells : kc + 1 ≤ rm.cells) (hslots : ks + N' ≤ rm.slots) (hd : decode cc pc = .ok (.newarray atype, 2)) (k : ∀ q : Nat, G (setK X (kc + 1) (ks + N')) (pc + 2) lv (.ref q :: st) (ws ++ [(q, .inl (cA, a0))])) : G (setK X kc ks) pc lv (.int n :: st) ws := by
  obtain ⟨p, l, e, R, s, m, args, below, meth, c, A, Q, D, nL, kc0, ks0⟩ := X
  obtain ⟨hx, hb, hml, hown, hts, hK, hA, rfl, rfl, rfl, rfl, hkc, hks⟩ := S
  intro H locs ls hP hD hS hl
  refine va_newa hx hb (hts _ harr) hty hK hP hD hS hA ha hn hN hbytes hcells hslots hd (fun q cA' H1 hK1 hP1 hD1 hS1 => ?_)
  have h1 := (hK1.2 tys.length (cA', ty) (by rw [List.getElem?_append_right (Nat.le_refl _), Nat.sub_self]; rfl)).2
  have h2 := (hK.2 t0 _ ht).2
  have e := hRA s cA' cA h1 h2
  subst e
  exact k q H1 locs ls hP1 hD1 hS1 hl
theorem r_putF {C : String} {T : u_T} {N ci index a : Nat} {fs : List Value} {v : Value} {ws' : va_W} (S : Sx X cc Ts own nl rm tys D0 l0) (hXi : Xi X) (hin : ∀ w ∈ u_ws C T N, w ∈ Ts) (ty0 : Nat → FieldType) (hty : ∀ k, k < N → parseFieldDescriptor (T k).2.2.1 = some (ty0 k)) (hnm : ∀ a, a < N → ∀ b, b < N → a ≠ b → (T a).2.1 ≠ (T b).2.1) (hc : vwCl[ci]? = some (C, T, N)) (q0 : Nat) (he : ws[q0]? = some (a, .inr (ci, fs))) (k0 : Nat) (hk : k0 < N) (hlink : Cond.fieldLink own index (T k0).1 (T k0).2.1 (T k0).2.2.1 ∈ Ts) (hfin : (T k0).2.2.2 = true) (hdecl : (T k0).1 = own) (hn : narrow (ty0 k0) v = v) (hfit : fits (ty0 k0) v = true) (hlen : k0 < fs.length) (hset : ws.set q0 (a, .inr (ci, fs.set k0 v)) = ws') (hd : decode cc pc = .ok (.putfield index, 3)) (k : G X (pc + 3) lv st ws') : G X pc lv (v :: .ref a :: st) ws := by
  obtain ⟨p, l, e, R, s, m, args, below, meth, c, A, Q, D, nL, kc, ks⟩ := X
  obtain ⟨hx, hb, hml, hown, hts, hK, hA, rfl, rfl, rfl, rfl, hkc, hks⟩ := S
  intro H locs ls hP hD hS hl
  exact va_putF hx hb hts hin ty0 hty hnm hown hK hP hD hS q0 he hc k0 hk (hts _ hlink) (fun _ h9 => h9) hfin hXi hdecl (hty k0 hk) hn hfit hlen hd (fun H1 locs1 hP1 hD1 hS1 => k H1 locs1 ls (hset ▸ hP1) (hset ▸ hD1) hS1 hl)
/-- a constructor's call -/
theorem r_calln {S : Type} {y : MethodName} {wsc : List Cond} {rmc : Room} {rest : List Value} {Wc wr : va_W} {WF ws' : S → va_W} {C : String} {maxL idx b mc ms : Nat} (S0 : Sx X cc Ts own nl rm tys D0 l0) (hXo : Xo X) (hC : Cn D0 tys l0 y wsc rmc b Wc WF mc ms) (hG : GoodIn Ts wsc) (hok : CallOK y wsc C 0 maxL) (hy1 : y.name = "<init>") (hl1 : Cond.methodLink own idx y ∈ Ts) (hl2 : Cond.instanceMethod y ∈ Ts) (hl3 : Cond.initialized y.cls ∈ Ts) (hrc : rmc.cells = mc ∧ rmc.slots = ms) (hR : rmc.frames + 1 ≤ rm.frames ∧ 8 + (maxL + 11) + rmc.locals ≤ rm.locals) (hret : ∃ (bytes : ByteArray) (wsr : List Cond), wsc = Cond.code y bytes maxL none :: wsr) (isC isR : List Nat) (hCs : isC.map (fun i => ws[i]?) = Wc.map some) (hRs : isR.map (fun i => ws[i]?) = wr.map some) (hnC : va_nd isC = true) (hnR : va_nd isR = true) (hdis : ∀ i ∈ isR, i ∉ isC) (hw9 : ∀ u, wr ++ WF u = ws' u) (hst : st = .ref b :: rest) (hcat : (rest.map fun v => v.category).sum ≤ 8) (hcm : kc + mc ≤ rm.cells ∧ ks + ms ≤ rm.slots) (hd : decode cc pc = .ok (.invokespecial idx, 3)) (k : ∀ u : S, G (setK X (kc + mc) (ks + ms)) (pc + 3) lv rest (ws' u)) : G (setK X kc ks) pc lv st ws := by
  obtain ⟨p, l, e, R, s, m, args, below, meth, c, A, Q, D, nL, kc0, ks0⟩ := X
  obtain ⟨hx, hb, hml, hown, hts, hK, hA, rfl, rfl, rfl, rfl, hkc, hks⟩ := S0
  intro H locs ls hP hD hS hl
  subst hst
  obtain ⟨-, hcls, hmh, hpar⟩ := hok
  obtain ⟨bytes, wsr, hws⟩ := hret
  have hPc := P_map isC hCs hP
  have hDc := hD.sub isC hnC hCs
  have hFc := va_free hD hS hA isC hCs
  refine va_callv (va_runI (As := []) (rest := rest) ⟨hx, hb, hml, hown, hts⟩ (hC H.size) (cwI 0 hts hG hws hrc.1 hrc.2 (hts _ hl3) (hts _ hl1) (hts _ hl2) hy1 ⟨hmh.1, hmh.2, hpar⟩ hR) ⟨KPn_blind, fun U hU hW => ⟨rfl, by rw [hU], by rw [hU]; exact hPc, va_K.moved hW.alike hK, hDc.weaken (fun _ _ _ _ => trivial), over_moved (u := s) hW.alike hXo⟩⟩ rfl rfl hl.1 rfl (lv_room hcat) hd hcm) hS (fun q _ h => hFc q h) hFc (fun u t H1 locs1 ht hvm hw hB hz1 hk1 hS1 => ?_)
  obtain ⟨hP1, hK1, hD1⟩ := hB
  rw [ht] at hP1
  obtain ⟨hP2, hD2⟩ := va_join hP hD isC isR hCs hRs hnR hdis hk1 hFc hP1 hD1
  rw [hw9 u] at hP2 hD2
  exact k u H1 locs1 ls hP2 hD2 hS1 hl
end GN
theorem Cn.ofn {S : Type} {D : va_G} {tys : List (ClassId × FieldType)} {l : Launch} {y : MethodName} {ws ws' : List Cond} {rm : Room} {a : Nat} {W0 : va_W} {WF : S → va_W} {mc ms : Nat} (cc : ByteArray) (maxL : Nat) {own : String} (hy : plainName y.cls = true) (hw : ws = Cond.code y cc maxL none :: ws') (hown : y.cls = own) (hinit : y.name = "<init>") (hlen : (lg_sl [.ref a]).length ≤ maxL)
    (body : ∀ X : GX, Sx X cc ws own maxL rm tys D l → Xi X → Xo X → (∀ (u : S) (pc : Nat) (lv : List (Nat × Value)), decode cc pc = .ok (.return_, 1) → G (setK X mc ms) pc lv [] (WF u)) → G (setK X 0 0) 0 [(0, .ref a)] [] W0) : Cn D tys l y ws rm a W0 WF mc ms := by
  intro sz
  refine Met.ofW (cc := cc) (maxL := maxL) (ret := none) hy hw ?_
  intro p e s m args below meth c s₁ B hml hv
  obtain ⟨rfl, hsz, hP, hK, hD0, hO⟩ := hv
  have hx := B.exec
  have hb := B.bytes
  have hr := B.returns
  have hts := atoms_spec (ws := ws) B.pre
  have hown' : s.vm.findClass own = some m.cls := hown ▸ findClass_of_methodNamed B.named
  have hlocks := B.notSynchronized
  have hin : meth.name = "<init>" := (name_of_methodNamed B.named B.method).1.trans hinit
  subst hsz
  have hD := hD0.self (sz := s.heap.size)
  have hl := lv_entry [.ref a] (n := maxL) hlen
  rw [lg_entry_eq]
  refine body (p, l, e, (headSpec ws rm).room, s, m, [Value.ref a].toArray, below, meth, c, va_A W0 s.heap.size, MQ below (va_Qv (fun _ : S => True) (fun u t => KB D tys W0 s.heap.size (WF u) t) (va_A W0 s.heap.size)) [Value.ref a].toArray s mc ms (va_A W0 s.heap.size), D, maxL, 0, 0) ⟨hx, hb, hml, hown', hts, hK, fun q h => Or.inr h, rfl, rfl, rfl, rfl, Nat.zero_le _, Nat.zero_le _⟩ hin hO ?_ s.heap [] _ hP hD va_S.rf hl
  intro u pc lv hd H locs ls hP1 hD1 hS1 hl1
  exact W.vret hx hb hr (fun t ht hW => ⟨⟨u, rfl, trivial, by rw [ht]; exact hP1, va_K.moved hW.alike hK, hD1⟩, hS1.F ht⟩) hS1.2.2 hd
theorem gN {c c' : Cond} (h5 : c' ∈ wsL_law) : GoodIn (c :: wsL_law) (c' :: wsL_law) := by
  intro w h
  rcases List.mem_cons.mp h with rfl | h
  · exact gU h5
  · exact gU h
theorem RA_u {ty : FieldType} (h : ∀ (U : State) (c : ClassId), va_RA U c ty → U.vm.findClass ("[" ++ ty.toString) = some c) : ∀ (U : State) (c1 c2 : ClassId), va_RA U c1 ty → va_RA U c2 ty → c1 = c2 := fun U c1 c2 h1 h2 => Option.some.inj ((h U c1 h1).symm.trans (h U c2 h2))
theorem RA_I : ∀ (U : State) (c1 c2 : ClassId), va_RA U c1 .int → va_RA U c2 .int → c1 = c2 := RA_u (fun _ _ h => h)
theorem RA_J : ∀ (U : State) (c1 c2 : ClassId), va_RA U c1 .long → va_RA U c2 .long → c1 = c2 := RA_u (fun _ _ h => h)
theorem RA_Z : ∀ (U : State) (c1 c2 : ClassId), va_RA U c1 .boolean → va_RA U c2 .boolean → c1 = c2 := RA_u (fun _ _ h => h)
theorem cell_I (N : Nat) : ∀ cA : ClassId, vp_cell cA (N, .inl (fun _ => 0)) = arrV cA N (fun _ => defaultValue .int) := fun _ => rfl
theorem cell_J (N : Nat) : ∀ cA : ClassId, vp_cell cA (N, .inr (.inl (fun _ => 0))) = arrV cA N (fun _ => defaultValue .long) := fun _ => rfl
theorem cell_Z (N : Nat) : ∀ cA : ClassId, vp_cell cA (N, .inl (fun _ => 0)) = arrV cA N (fun _ => defaultValue .boolean) := fun _ => rfl
/-! ===== new int[24][24] ===== -/
def va_AOA (ty : FieldType) (U : State) : Prop := (Cond.arrayOver (.array ty)).before #[] U = true
theorem va_AOA.use {ty : FieldType} {A : Array Value} {U : State} (h : va_AOA ty U) : (Cond.arrayOver (.array ty)).before A U = true := h
/-! ===== BEGIN new T[n][m]: the outer array a place, the inner ones among the pooled ===== -/
/-- f, but v at every address of l -/
def vr_up {α : Type} (f : Nat → α) (l : List Nat) (v : α) : Nat → α := fun a => if a ∈ l then v else f a
theorem vr_up_in {α : Type} {f : Nat → α} {l : List Nat} {v : α} {a : Nat} (h : a ∈ l) : vr_up f l v a = v := if_pos h
theorem vr_up_ne {α : Type} {f : Nat → α} {l : List Nat} {v : α} {a : Nat} (h : a ∉ l) : vr_up f l v a = f a := if_neg h
theorem vr_rows {L l : List Nat} {f : Nat → va_E} {e : va_E} (h : ∀ a, a ∈ l → a ∉ L) : va_pl L f ++ l.map (fun a => (a, e)) = va_pl (L ++ l) (vr_up f l e) := by
  unfold va_pl
  rw [List.map_append]
  congr 1
  · apply List.map_congr_left
    intro a ha
    rw [vr_up_ne (fun q => h a q ha)]
  · apply List.map_congr_left
    intro a ha
    rw [vr_up_in ha]
theorem vr_lay {X rows : va_W} {x : Nat × va_E} {pl : va_W} {D : va_G} {cl : List vw_C} {H : Heap} (hP : va_P D cl (((X ++ pl) ++ [x]) ++ rows) H) : va_P D cl ((X ++ [x]) ++ (pl ++ rows)) H := by
  rw [List.append_assoc (X ++ pl)] at hP
  have h := va_P.swap hP
  rw [← List.append_assoc X] at h
  have h2 := va_P.swap h
  rw [List.append_assoc (X ++ [x])] at h2
  exact h2
theorem vr_layD {X rows : va_W} {x : Nat × va_E} {pl : va_W} {A : Nat → Prop} (hD : va_D A (((X ++ pl) ++ [x]) ++ rows)) : va_D A ((X ++ [x]) ++ (pl ++ rows)) := by
  rw [List.append_assoc (X ++ pl)] at hD
  have h := va_D.swap hD
  rw [← List.append_assoc X] at h
  have h2 := va_D.swap h
  rw [List.append_assoc (X ++ [x])] at h2
  exact h2
theorem vr_outer (c : ClassId) (N h0 : Nat) : ∀ i : Nat, Jvm.Free.Multi.outerC c N h0 i = arrV c N (fun j => va_rf (if j < i then some (h0 + 1 + j) else none))
  | 0 => by
    show ({ cls := c, slots := Array.replicate N .null, vm := .none } : Cell) = _
    rw [arrV_new]
    refine congrArg (arrV c N) (funext fun j => ?_)
    simp [va_rf]
  | i + 1 => by
    show (Jvm.Free.Multi.outerC c N h0 i).setSlot i (.ref (h0 + 1 + i)) = _
    rw [vr_outer c N h0 i, arrV_store]
    refine congrArg (arrV c N) (funext fun j => ?_)
    by_cases e : j = i
    · subst e
      simp [updV, va_rf]
    · by_cases h : j < i
      · simp [updV, e, h, Nat.lt_succ_of_lt h]
      · simp [updV, e, h, show ¬ j < i + 1 by omega]
section VGM
variable {p : Program} {l : Launch} {e : Env} {R : Room} {s : State} {m : MethodId} {args : Array Value} {below : List Frame} {meth : Method} {c : Code} {H : Heap} {locs : List Loc} {cells slots : Nat} {Q : State → Prop}
variable {cc : ByteArray} {pc : Nat} {ls : Array Slot} {rest : List Value} {D : va_G} {cl : List vw_C} {A : Nat → Prop} {a : Nat} {tys : List (ClassId × FieldType)} {ws : va_W} {H0 : Heap}
theorem va_mna {X : va_W} {L : List Nat} {f : Nat → va_E} {cc : ByteArray} (hexec : p.tables.exec = Jvm.exec) (hb : c.code = cc) {own : String} {index : Nat} {ty : FieldType} {cy : ClassId} (hown : s.vm.findClass own = some m.cls) (hclink : (Cond.classLink own index ("[" ++ (FieldType.array ty).toString)).before args s = true) (hover : va_AOA ty s) (harr : (Cond.arrayClass ty).before args s = true) (hcy : s.vm.findClass (FieldType.array ty).toString = some cy)
    (hK : va_K D cl tys s) (hP : va_P D cl (X ++ va_pl L f) H) (hD : va_D A (X ++ va_pl L f)) (hS : va_S A H0 H locs) (hA : ∀ q, H0.size ≤ q → A q) {n k : Int32} {N' K' : Nat} {z : vp_A} (hn : ¬ n < 0) (hk : ¬ k < 0) (hN : n.toNatClampNeg = N') (hM : k.toNatClampNeg = K')
    (hb1 : N' * 4 ≤ 536870912) (hb2 : K' * componentBytes ty ≤ 536870912) (hb3 : K' ≤ 536870912) (hdf : fits ty (defaultValue ty) = true) (hdd : (defaultValue ty).isDefault = true) (hcells : cells + (1 + N') ≤ R.cells) (hslots : slots + (N' + N' * K') ≤ R.slots) (hz : ∀ c : ClassId, Jvm.Free.Multi.innerC c K' (defaultValue ty) = vp_cell c z) (hdg : decode cc pc = .ok (.multianewarray index 2, 4))
    (kk : ∀ (q : Nat) (r : Nat → Nat) (cA : ClassId) (H1 : Heap), (∀ i j : Nat, i < N' → j < N' → r i = r j → i = j) → (∀ i : Nat, i < N' → r i ∉ L) → va_K D cl (tys ++ [(cA, .array ty)]) s →
      va_P D cl ((X ++ [(q, .inl (cA, N', .inr (.inr (.inr (.inr (fun i => if i < N' then some (r i) else none))))))]) ++ va_pl (L ++ (List.range N').map r) (vr_up f ((List.range N').map r) (.inl (cy, z)))) H1 → va_D A ((X ++ [(q, .inl (cA, N', .inr (.inr (.inr (.inr (fun i => if i < N' then some (r i) else none))))))]) ++ va_pl (L ++ (List.range N').map r) (vr_up f ((List.range N').map r) (.inl (cy, z)))) → va_S A H0 H1 locs →
      W p l e R s m args below meth c H1 locs (cells + 1 + N') (slots + N' + N' * K') Q (F0 m (pc + 4) ls (.ref q :: rest))) : W p l e R s m args below meth c H locs cells slots Q (F0 m pc ls (.int k :: .int n :: rest)) := by
  subst hN
  subst hM
  intro T hT Xs
  obtain ⟨vm₁, cA, comp, -, fA, fC, hO, -, X', step⟩ := Xs.multianewarray2F hexec hown hclink (va_AOA.use hover) harr (g := F0 m pc ls (.int k :: .int n :: rest)) rfl (by rw [hb]; exact hdg) rfl hn hk hb1 hb2 hb3 hdf hdd hcells hslots
  have ec : some cy = some comp := hcy.symm.trans fC
  cases ec
  generalize hF : Jvm.Free.Multi.fill (T.setVm vm₁) cA cy n.toNatClampNeg k.toNatClampNeg (defaultValue ty) n.toNatClampNeg = F at X' step
  have hTh : (T.setVm vm₁).heap = H := hT
  obtain ⟨f1, f2, -, -⟩ := Jvm.Free.Multi.fill_facts (T.setVm vm₁) cA cy n.toNatClampNeg k.toNatClampNeg (defaultValue ty) n.toNatClampNeg
  rw [hF, hTh] at f1 f2
  have hold : ∀ x : Nat, x < H.size → F.heap[x]? = H[x]? := fun x hx => by
    have := Jvm.Free.Multi.fill_old (T.setVm vm₁) cA cy n.toNatClampNeg k.toNatClampNeg (defaultValue ty) (a := x) (by rw [hTh]; exact hx) n.toNatClampNeg
    rw [hF, hTh] at this
    exact this
  have hrow : ∀ j : Nat, j < n.toNatClampNeg → F.heap[H.size + 1 + j]? = some (vp_cell cy z) := fun j hj => by
    have := Jvm.Free.Multi.fill_inner (T.setVm vm₁) cA cy n.toNatClampNeg k.toNatClampNeg (defaultValue ty) n.toNatClampNeg j hj
    rw [hF, hTh, hz] at this
    exact this
  have hout : Jvm.Free.Multi.outerC cA n.toNatClampNeg H.size n.toNatClampNeg = vp_cell cA (n.toNatClampNeg, .inr (.inr (.inr (.inr (fun i => if i < n.toNatClampNeg then some (H.size + 1 + i) else none))))) := by
    rw [vp_cell_q]
    exact vr_outer cA n.toNatClampNeg H.size n.toNatClampNeg
  rw [hout] at f2
  have hlt : ∀ a, a ∈ L → a < H.size := fun a ha => by
    obtain ⟨k9, hk9⟩ := va_pl_get (X := X) (f := f) ha
    exact (hP k9 _ hk9).lt
  have hnl : ∀ i : Nat, i < n.toNatClampNeg → H.size + 1 + i ∉ L := fun i _ h => by
    have := hlt _ h
    omega
  have hnm : ∀ a, a ∈ (List.range n.toNatClampNeg).map (fun i => H.size + 1 + i) → a ∉ L := fun a ha h => by
    obtain ⟨i, -, rfl⟩ := List.mem_map.mp ha
    have := hlt _ h
    omega
  have hP0 : va_P D cl (X ++ va_pl L f) F.heap := hP.kept (fun k9 x hx => hold x.1 ((hP k9 x hx).lt))
  have hP1 : va_P D cl ((X ++ va_pl L f) ++ [(H.size, .inl (cA, n.toNatClampNeg, .inr (.inr (.inr (.inr (fun i => if i < n.toNatClampNeg then some (H.size + 1 + i) else none))))))]) F.heap := hP0.app (fun k9 x hx => by
    have h0 : k9 < 1 := (List.getElem?_eq_some_iff.mp hx).1
    rw [show k9 = 0 by omega] at hx
    cases hx
    exact f2)
  have hP2 : va_P D cl (((X ++ va_pl L f) ++ [(H.size, .inl (cA, n.toNatClampNeg, .inr (.inr (.inr (.inr (fun i => if i < n.toNatClampNeg then some (H.size + 1 + i) else none))))))]) ++ ((List.range n.toNatClampNeg).map (fun i => H.size + 1 + i)).map (fun a => (a, .inl (cy, z)))) F.heap := hP1.app (fun k9 x hx => by
    obtain ⟨a, ha, rfl⟩ := List.mem_map.mp (List.mem_of_getElem? hx)
    obtain ⟨i, hi, rfl⟩ := List.mem_map.mp ha
    exact hrow i (List.mem_range.mp hi))
  have hD2 : va_D A (((X ++ va_pl L f) ++ [(H.size, .inl (cA, n.toNatClampNeg, .inr (.inr (.inr (.inr (fun i => if i < n.toNatClampNeg then some (H.size + 1 + i) else none))))))]) ++ ((List.range n.toNatClampNeg).map (fun i => H.size + 1 + i)).map (fun a => (a, .inl (cy, z)))) := by
    have hD1 := hD.push (e := .inl (cA, n.toNatClampNeg, .inr (.inr (.inr (.inr (fun i => if i < n.toNatClampNeg then some (H.size + 1 + i) else none)))))) hP rfl (hA _ hS.1)
    generalize hW1 : (X ++ va_pl L f) ++ [(H.size, .inl (cA, n.toNatClampNeg, .inr (.inr (.inr (.inr (fun i => if i < n.toNatClampNeg then some (H.size + 1 + i) else none))))))] = W1 at hD1 hP1 ⊢
    have hle : ∀ (k9 : Nat) (x : Nat × va_E), W1[k9]? = some x → x.1 ≤ H.size := fun k9 x hx => by
      rw [← hW1] at hx
      by_cases hl : k9 < (X ++ va_pl L f).length
      · rw [List.getElem?_append_left hl] at hx
        exact Nat.le_of_lt ((hP k9 x hx).lt)
      · rw [List.getElem?_append_right (by omega)] at hx
        have h0 : k9 - (X ++ va_pl L f).length < 1 := (List.getElem?_eq_some_iff.mp hx).1
        rw [show k9 - (X ++ va_pl L f).length = 0 by omega] at hx
        cases hx
        exact Nat.le_refl _
    have hr : ∀ (k9 : Nat) (x : Nat × va_E), (((List.range n.toNatClampNeg).map (fun i => H.size + 1 + i)).map (fun a => ((a, .inl (cy, z)) : Nat × va_E)))[k9]? = some x → x.1 = H.size + 1 + k9 := fun k9 x hx => by
      rw [List.getElem?_map, List.getElem?_map] at hx
      by_cases h9 : k9 < n.toNatClampNeg
      · rw [List.getElem?_range h9] at hx
        cases hx
        rfl
      · have hn0 : (List.range n.toNatClampNeg)[k9]? = none := List.getElem?_eq_none (by rw [List.length_range]; omega)
        rw [hn0] at hx
        cases hx
    refine ⟨fun i j x y hi hj hxy => ?_, fun k9 x hx => ?_⟩
    · by_cases h1 : i < W1.length <;> by_cases h2 : j < W1.length
      · rw [List.getElem?_append_left h1] at hi
        rw [List.getElem?_append_left h2] at hj
        exact hD1.1 i j x y hi hj hxy
      · rw [List.getElem?_append_left h1] at hi
        rw [List.getElem?_append_right (by omega)] at hj
        have := hle _ _ hi
        have := hr _ _ hj
        omega
      · rw [List.getElem?_append_right (by omega)] at hi
        rw [List.getElem?_append_left h2] at hj
        have := hle _ _ hj
        have := hr _ _ hi
        omega
      · rw [List.getElem?_append_right (by omega)] at hi hj
        have := hr _ _ hi
        have := hr _ _ hj
        omega
    · by_cases h1 : k9 < W1.length
      · rw [List.getElem?_append_left h1] at hx
        exact hD1.2 k9 x hx
      · rw [List.getElem?_append_right (by omega)] at hx
        have := hr _ _ hx
        exact hA _ (by have := hS.1; omega)
  have hAr : ArrOfT s cA (.array ty) := fun N9 z9 => by
    obtain ⟨-, k9, hk9, cm9, hkk9⟩ := (hO 0 0 0).1
    exact ⟨(fun q hq => by cases hq), k9, hk9, cm9, hkk9⟩
  have hK2 : va_K D cl (tys ++ [(cA, .array ty)]) s := ⟨hK.1, fun k9 x hx => by
    by_cases hl : k9 < tys.length
    · rw [List.getElem?_append_left hl] at hx
      exact hK.2 k9 x hx
    · rw [List.getElem?_append_right (by omega)] at hx
      have h0 : k9 - tys.length < 1 := (List.getElem?_eq_some_iff.mp hx).1
      rw [show k9 - tys.length = 0 by omega] at hx
      cases hx
      exact ⟨hAr, fA⟩⟩
  obtain ⟨t, a1, b1⟩ := kk H.size (fun i => H.size + 1 + i) cA F.heap (fun i j _ _ h => by have h9 : H.size + 1 + i = H.size + 1 + j := h; omega) hnl hK2 (by rw [← vr_rows hnm]; exact vr_lay hP2) (by rw [← vr_rows hnm]; exact vr_layD hD2) ⟨by rw [f1]; have := hS.1; omega, fun x h1 h2 => (hold x (Nat.lt_of_lt_of_le h1 hS.1)).trans (hS.2.1 x h1 h2), hS.2.2⟩ F rfl X'
  refine ⟨t, step t ?_, b1⟩
  have e : T.heap.size = H.size := by rw [hT]
  rw [e]
  exact a1
end VGM
/-! ===== END ===== -/

theorem RA_Y : ∀ (U : State) (c1 c2 : ClassId), va_RA U c1 (.array .int) → va_RA U c2 (.array .int) → c1 = c2 := RA_u (fun _ _ h => h)
set_option maxRecDepth 20000 in
theorem r_mna {X : GX} {cc : ByteArray} {Ts : List Cond} {own : String} {nl : Nat} {rm : Room} {tys : List (ClassId × FieldType)} {D0 : va_G} {l0 : Launch} {pc : Nat} {lv : List (Nat × Value)} {st : List Value} {ws : va_W} {kc ks index : Nat} {cI cY : ClassId} (S : Sx X cc Ts own nl rm tys D0 l0) (hXo : Xo X) (hclink : Cond.classLink own index "[[I" ∈ Ts) (harr : Cond.arrayClass .int ∈ Ts) (hcI : tys[0]? = some (cI, .int)) (hcY : tys[3]? = some (cY, .array .int)) (hcells : kc + (1 + 24) ≤ rm.cells) (hslots : ks + (24 + 24 * 24) ≤ rm.slots) (hd : decode cc pc = .ok (.multianewarray index 2, 4)) (k : ∀ (q : Nat) (r : Nat → Nat), G (setK X (kc + 1 + 24) (ks + 24 + 24 * 24)) (pc + 4) lv (.ref q :: st) ((ws ++ [(q, .inl (cY, 24, .inr (.inr (.inr (.inr (fun i => if i < 24 then some (r i) else none))))))]) ++ [(r 0, .inl (cI, 24, .inl (fun _ => 0))), (r 1, .inl (cI, 24, .inl (fun _ => 0))), (r 2, .inl (cI, 24, .inl (fun _ => 0))), (r 3, .inl (cI, 24, .inl (fun _ => 0))), (r 4, .inl (cI, 24, .inl (fun _ => 0))), (r 5, .inl (cI, 24, .inl (fun _ => 0))), (r 6, .inl (cI, 24, .inl (fun _ => 0))), (r 7, .inl (cI, 24, .inl (fun _ => 0))), (r 8, .inl (cI, 24, .inl (fun _ => 0))), (r 9, .inl (cI, 24, .inl (fun _ => 0))), (r 10, .inl (cI, 24, .inl (fun _ => 0))), (r 11, .inl (cI, 24, .inl (fun _ => 0))), (r 12, .inl (cI, 24, .inl (fun _ => 0))), (r 13, .inl (cI, 24, .inl (fun _ => 0))), (r 14, .inl (cI, 24, .inl (fun _ => 0))), (r 15, .inl (cI, 24, .inl (fun _ => 0))), (r 16, .inl (cI, 24, .inl (fun _ => 0))), (r 17, .inl (cI, 24, .inl (fun _ => 0))), (r 18, .inl (cI, 24, .inl (fun _ => 0))), (r 19, .inl (cI, 24, .inl (fun _ => 0))), (r 20, .inl (cI, 24, .inl (fun _ => 0))), (r 21, .inl (cI, 24, .inl (fun _ => 0))), (r 22, .inl (cI, 24, .inl (fun _ => 0))), (r 23, .inl (cI, 24, .inl (fun _ => 0)))]) ) : G (setK X kc ks) pc lv (.int 24 :: .int 24 :: st) ws := by
  obtain ⟨p, l, e, R, s, m, args, below, meth, c, A, Q, D, nL, kc0, ks0⟩ := X
  obtain ⟨hx, hb, hml, hown, hts, hK, hA, rfl, rfl, rfl, rfl, hkc, hks⟩ := S
  intro H locs ls hP hD hS hl
  have hcy : s.vm.findClass (FieldType.array .int).toString = some cI := (hK.2 0 _ hcI).2
  have hpl : ws ++ va_pl [] (fun _ => (Sum.inl (cI, 24, .inl (fun _ => 0)) : va_E)) = ws := List.append_nil ws
  refine va_mna (X := ws) (L := []) (f := fun _ => .inl (cI, 24, .inl (fun _ => 0))) hx hb (ty := .int) hown (hts _ hclink) hXo (hts _ harr) hcy hK (by rw [hpl]; exact hP) (by rw [hpl]; exact hD) hS hA (n := 24) (k := 24) (N' := 24) (K' := 24) (z := (24, .inl (fun _ => 0))) (by decide) (by decide) (by decide) (by decide) (by decide) (by decide) (by decide) rfl rfl hcells hslots (fun c => ?_) hd (fun q r cA H1 hinj hnL hK1 hP1 hD1 hS1 => ?_)
  · show ({ cls := c, slots := Array.replicate 24 (.int 0), vm := .none } : Cell) = _
    rw [arrV_new]
    rfl
  · have h1 := (hK1.2 tys.length (cA, .array .int) (by rw [List.getElem?_append_right (Nat.le_refl _), Nat.sub_self]; rfl)).2
    have h2 := (hK.2 3 _ hcY).2
    have e := RA_Y s cA cY h1 h2
    subst e
    have e : va_pl ([] ++ (List.range 24).map r) (vr_up (fun _ => (.inl (cI, 24, .inl (fun _ => 0)) : va_E)) ((List.range 24).map r) (.inl (cI, 24, .inl (fun _ => 0)))) = [(r 0, .inl (cI, 24, .inl (fun _ => 0))), (r 1, .inl (cI, 24, .inl (fun _ => 0))), (r 2, .inl (cI, 24, .inl (fun _ => 0))), (r 3, .inl (cI, 24, .inl (fun _ => 0))), (r 4, .inl (cI, 24, .inl (fun _ => 0))), (r 5, .inl (cI, 24, .inl (fun _ => 0))), (r 6, .inl (cI, 24, .inl (fun _ => 0))), (r 7, .inl (cI, 24, .inl (fun _ => 0))), (r 8, .inl (cI, 24, .inl (fun _ => 0))), (r 9, .inl (cI, 24, .inl (fun _ => 0))), (r 10, .inl (cI, 24, .inl (fun _ => 0))), (r 11, .inl (cI, 24, .inl (fun _ => 0))), (r 12, .inl (cI, 24, .inl (fun _ => 0))), (r 13, .inl (cI, 24, .inl (fun _ => 0))), (r 14, .inl (cI, 24, .inl (fun _ => 0))), (r 15, .inl (cI, 24, .inl (fun _ => 0))), (r 16, .inl (cI, 24, .inl (fun _ => 0))), (r 17, .inl (cI, 24, .inl (fun _ => 0))), (r 18, .inl (cI, 24, .inl (fun _ => 0))), (r 19, .inl (cI, 24, .inl (fun _ => 0))), (r 20, .inl (cI, 24, .inl (fun _ => 0))), (r 21, .inl (cI, 24, .inl (fun _ => 0))), (r 22, .inl (cI, 24, .inl (fun _ => 0))), (r 23, .inl (cI, 24, .inl (fun _ => 0)))] := by
      rw [List.nil_append]
      unfold va_pl
      rw [List.map_congr_left (g := fun a => (a, (.inl (cI, 24, .inl (fun _ => 0)) : va_E))) (fun a ha => by rw [vr_up_in ha])]
      rfl
    rw [e] at hP1 hD1
    exact k q r H1 locs ls hP1 hD1 hS1 hl
