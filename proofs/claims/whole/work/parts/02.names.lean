/-! ===== BEGIN words of one list among another's, by their places ===== -/
theorem goodIn_r {big : List Cond} (ws : List Cond) (ps : List Nat) (hp : ws = ps.filterMap (fun i => big[i]?)) (h : ws.all goodWord = true) : GoodIn big ws := by
  intro w hw
  have h1 := List.all_eq_true.mp h w hw
  rw [hp] at hw
  obtain ⟨i, -, hi⟩ := List.mem_filterMap.mp hw
  have hm : w ∈ big := by first | exact List.mem_of_getElem? hi | exact List.getElem?_mem hi
  exact ⟨hm, good_of_word h1⟩
theorem goodIn_app {big a b : List Cond} (ha : GoodIn big a) (hb : GoodIn big b) : GoodIn big (a ++ b) := fun w h => (List.mem_append.mp h).elim (ha w) (hb w)
theorem goodIn_ca {big a b : List Cond} {c : Cond} (ha : GoodIn big (c :: a)) (hb : GoodIn big b) : GoodIn big (c :: (a ++ b)) := fun w h => (List.mem_cons.mp h).elim (fun e => ha w (List.mem_cons.mpr (Or.inl e))) (fun h => (List.mem_append.mp h).elim (fun h => ha w (List.mem_cons.mpr (Or.inr h))) (hb w))
theorem goodIn_sub {big ws : List Cond} (hm : ∀ w ∈ ws, w ∈ big) (h : ws.all goodWord = true) : GoodIn big ws := fun w hw => ⟨hm w hw, good_of_word (List.all_eq_true.mp h w hw)⟩
/-! ===== END ===== -/

/-! ===== BEGIN new T[n][m]: the outer array a place, the inner ones among the pooled ===== -/
/-- f, but v at every address of l -/
def vr_up {α : Type} (f : Nat → α) (l : List Nat) (v : α) : Nat → α := fun a => if a ∈ l then v else f a
theorem vr_up_in {α : Type} {f : Nat → α} {l : List Nat} {v : α} {a : Nat} (h : a ∈ l) : vr_up f l v a = v := if_pos h
theorem vr_up_ne {α : Type} {f : Nat → α} {l : List Nat} {v : α} {a : Nat} (h : a ∉ l) : vr_up f l v a = f a := if_neg h
theorem vr_rows {L l : List Nat} {f : Nat → va_E} {e : va_E} (h : ∀ a, a ∈ l → a ∉ L) : va_pl L f ++ l.map (fun a => (a, e)) = va_pl (L ++ l) (vr_up f l e) := by
  unfold va_pl
  rw [List.map_append]
  congr 1
  · apply List.map_congr_left
    intro a ha
    rw [vr_up_ne (fun q => h a q ha)]
  · apply List.map_congr_left
    intro a ha
    rw [vr_up_in ha]
theorem vr_lay {X rows : va_W} {x : Nat × va_E} {pl : va_W} {D : va_G} {cl : List vw_C} {H : Heap} (hP : va_P D cl (((X ++ pl) ++ [x]) ++ rows) H) : va_P D cl ((X ++ [x]) ++ (pl ++ rows)) H := by
  rw [List.append_assoc (X ++ pl)] at hP
  have h := va_P.swap hP
  rw [← List.append_assoc X] at h
  have h2 := va_P.swap h
  rw [List.append_assoc (X ++ [x])] at h2
  exact h2
theorem vr_layD {X rows : va_W} {x : Nat × va_E} {pl : va_W} {A : Nat → Prop} (hD : va_D A (((X ++ pl) ++ [x]) ++ rows)) : va_D A ((X ++ [x]) ++ (pl ++ rows)) := by
  rw [List.append_assoc (X ++ pl)] at hD
  have h := va_D.swap hD
  rw [← List.append_assoc X] at h
  have h2 := va_D.swap h
  rw [List.append_assoc (X ++ [x])] at h2
  exact h2
theorem vr_outer (c : ClassId) (N h0 : Nat) : ∀ i : Nat, Jvm.Free.Multi.outerC c N h0 i = arrV c N (fun j => va_rf (if j < i then some (h0 + 1 + j) else none))
  | 0 => by
    show ({ cls := c, slots := Array.replicate N .null, vm := .none } : Cell) = _
    rw [arrV_new]
    refine congrArg (arrV c N) (funext fun j => ?_)
    simp [va_rf]
  | i + 1 => by
    show (Jvm.Free.Multi.outerC c N h0 i).setSlot i (.ref (h0 + 1 + i)) = _
    rw [vr_outer c N h0 i, arrV_store]
    refine congrArg (arrV c N) (funext fun j => ?_)
    by_cases e : j = i
    · subst e
      simp [updV, va_rf]
    · by_cases h : j < i
      · simp [updV, e, h, Nat.lt_succ_of_lt h]
      · simp [updV, e, h, show ¬ j < i + 1 by omega]
section VGM
variable {p : Program} {l : Launch} {e : Env} {R : Room} {s : State} {m : MethodId} {args : Array Value} {below : List Frame} {meth : Method} {c : Code} {H : Heap} {locs : List Loc} {cells slots : Nat} {Q : State → Prop}
variable {cc : ByteArray} {pc : Nat} {ls : Array Slot} {rest : List Value} {D : va_G} {cl : List vw_C} {A : Nat → Prop} {a : Nat} {tys : List (ClassId × FieldType)} {ws : va_W} {H0 : Heap}
theorem va_mna {X : va_W} {L : List Nat} {f : Nat → va_E} {cc : ByteArray} (hexec : p.tables.exec = Jvm.exec) (hb : c.code = cc) {own : String} {index : Nat} {ty : FieldType} {cy : ClassId} (hown : s.vm.findClass own = some m.cls) (hclink : (Cond.classLink own index ("[" ++ (FieldType.array ty).toString)).before args s = true) (hover : va_AOA ty s) (harr : (Cond.arrayClass ty).before args s = true) (hcy : s.vm.findClass (FieldType.array ty).toString = some cy)
    (hK : va_K D cl tys s) (hP : va_P D cl (X ++ va_pl L f) H) (hD : va_D A (X ++ va_pl L f)) (hS : va_S A H0 H locs) (hA : ∀ q, H0.size ≤ q → A q) {n k : Int32} {N' K' : Nat} {z : vp_A} (hn : ¬ n < 0) (hk : ¬ k < 0) (hN : n.toNatClampNeg = N') (hM : k.toNatClampNeg = K')
    (hb1 : N' * 4 ≤ 536870912) (hb2 : K' * componentBytes ty ≤ 536870912) (hb3 : K' ≤ 536870912) (hdf : fits ty (defaultValue ty) = true) (hdd : (defaultValue ty).isDefault = true) (hcells : cells + (1 + N') ≤ R.cells) (hslots : slots + (N' + N' * K') ≤ R.slots) (hz : ∀ c : ClassId, Jvm.Free.Multi.innerC c K' (defaultValue ty) = vp_cell c z) (hdg : decode cc pc = .ok (.multianewarray index 2, 4))
    (kk : ∀ (q : Nat) (r : Nat → Nat) (cA : ClassId) (H1 : Heap), (∀ i j : Nat, i < N' → j < N' → r i = r j → i = j) → (∀ i : Nat, i < N' → r i ∉ L) → va_K D cl (tys ++ [(cA, .array ty)]) s →
      va_P D cl ((X ++ [(q, .inl (cA, N', .inr (.inr (.inr (.inr (fun i => if i < N' then some (r i) else none))))))]) ++ va_pl (L ++ (List.range N').map r) (vr_up f ((List.range N').map r) (.inl (cy, z)))) H1 → va_D A ((X ++ [(q, .inl (cA, N', .inr (.inr (.inr (.inr (fun i => if i < N' then some (r i) else none))))))]) ++ va_pl (L ++ (List.range N').map r) (vr_up f ((List.range N').map r) (.inl (cy, z)))) → va_S A H0 H1 locs →
      W p l e R s m args below meth c H1 locs (cells + 1 + N') (slots + N' + N' * K') Q (F0 m (pc + 4) ls (.ref q :: rest))) : W p l e R s m args below meth c H locs cells slots Q (F0 m pc ls (.int k :: .int n :: rest)) := by
  subst hN
  subst hM
  intro T hT Xs
  obtain ⟨vm₁, cA, comp, -, fA, fC, hO, -, X', step⟩ := Xs.multianewarray2F hexec hown hclink (va_AOA.use hover) harr (g := F0 m pc ls (.int k :: .int n :: rest)) rfl (by rw [hb]; exact hdg) rfl hn hk hb1 hb2 hb3 hdf hdd hcells hslots
  have ec : some cy = some comp := hcy.symm.trans fC
  cases ec
  generalize hF : Jvm.Free.Multi.fill (T.setVm vm₁) cA cy n.toNatClampNeg k.toNatClampNeg (defaultValue ty) n.toNatClampNeg = F at X' step
  have hTh : (T.setVm vm₁).heap = H := hT
  obtain ⟨f1, f2, -, -⟩ := Jvm.Free.Multi.fill_facts (T.setVm vm₁) cA cy n.toNatClampNeg k.toNatClampNeg (defaultValue ty) n.toNatClampNeg
  rw [hF, hTh] at f1 f2
  have hold : ∀ x : Nat, x < H.size → F.heap[x]? = H[x]? := fun x hx => by
    have := Jvm.Free.Multi.fill_old (T.setVm vm₁) cA cy n.toNatClampNeg k.toNatClampNeg (defaultValue ty) (a := x) (by rw [hTh]; exact hx) n.toNatClampNeg
    rw [hF, hTh] at this
    exact this
  have hrow : ∀ j : Nat, j < n.toNatClampNeg → F.heap[H.size + 1 + j]? = some (vp_cell cy z) := fun j hj => by
    have := Jvm.Free.Multi.fill_inner (T.setVm vm₁) cA cy n.toNatClampNeg k.toNatClampNeg (defaultValue ty) n.toNatClampNeg j hj
    rw [hF, hTh, hz] at this
    exact this
  have hout : Jvm.Free.Multi.outerC cA n.toNatClampNeg H.size n.toNatClampNeg = vp_cell cA (n.toNatClampNeg, .inr (.inr (.inr (.inr (fun i => if i < n.toNatClampNeg then some (H.size + 1 + i) else none))))) := by
    rw [vp_cell_q]
    exact vr_outer cA n.toNatClampNeg H.size n.toNatClampNeg
  rw [hout] at f2
  have hlt : ∀ a, a ∈ L → a < H.size := fun a ha => by
    obtain ⟨k9, hk9⟩ := va_pl_get (X := X) (f := f) ha
    exact (hP k9 _ hk9).lt
  have hnl : ∀ i : Nat, i < n.toNatClampNeg → H.size + 1 + i ∉ L := fun i _ h => by
    have := hlt _ h
    omega
  have hnm : ∀ a, a ∈ (List.range n.toNatClampNeg).map (fun i => H.size + 1 + i) → a ∉ L := fun a ha h => by
    obtain ⟨i, -, rfl⟩ := List.mem_map.mp ha
    have := hlt _ h
    omega
  have hP0 : va_P D cl (X ++ va_pl L f) F.heap := hP.kept (fun k9 x hx => hold x.1 ((hP k9 x hx).lt))
  have hP1 : va_P D cl ((X ++ va_pl L f) ++ [(H.size, .inl (cA, n.toNatClampNeg, .inr (.inr (.inr (.inr (fun i => if i < n.toNatClampNeg then some (H.size + 1 + i) else none))))))]) F.heap := hP0.app (fun k9 x hx => by
    have h0 : k9 < 1 := (List.getElem?_eq_some_iff.mp hx).1
    rw [show k9 = 0 by omega] at hx
    cases hx
    exact f2)
  have hP2 : va_P D cl (((X ++ va_pl L f) ++ [(H.size, .inl (cA, n.toNatClampNeg, .inr (.inr (.inr (.inr (fun i => if i < n.toNatClampNeg then some (H.size + 1 + i) else none))))))]) ++ ((List.range n.toNatClampNeg).map (fun i => H.size + 1 + i)).map (fun a => (a, .inl (cy, z)))) F.heap := hP1.app (fun k9 x hx => by
    obtain ⟨a, ha, rfl⟩ := List.mem_map.mp (List.mem_of_getElem? hx)
    obtain ⟨i, hi, rfl⟩ := List.mem_map.mp ha
    exact hrow i (List.mem_range.mp hi))
  have hD2 : va_D A (((X ++ va_pl L f) ++ [(H.size, .inl (cA, n.toNatClampNeg, .inr (.inr (.inr (.inr (fun i => if i < n.toNatClampNeg then some (H.size + 1 + i) else none))))))]) ++ ((List.range n.toNatClampNeg).map (fun i => H.size + 1 + i)).map (fun a => (a, .inl (cy, z)))) := by
    have hD1 := hD.push (e := .inl (cA, n.toNatClampNeg, .inr (.inr (.inr (.inr (fun i => if i < n.toNatClampNeg then some (H.size + 1 + i) else none)))))) hP rfl (hA _ hS.1)
    generalize hW1 : (X ++ va_pl L f) ++ [(H.size, .inl (cA, n.toNatClampNeg, .inr (.inr (.inr (.inr (fun i => if i < n.toNatClampNeg then some (H.size + 1 + i) else none))))))] = W1 at hD1 hP1 ⊢
    have hle : ∀ (k9 : Nat) (x : Nat × va_E), W1[k9]? = some x → x.1 ≤ H.size := fun k9 x hx => by
      rw [← hW1] at hx
      by_cases hl : k9 < (X ++ va_pl L f).length
      · rw [List.getElem?_append_left hl] at hx
        exact Nat.le_of_lt ((hP k9 x hx).lt)
      · rw [List.getElem?_append_right (by omega)] at hx
        have h0 : k9 - (X ++ va_pl L f).length < 1 := (List.getElem?_eq_some_iff.mp hx).1
        rw [show k9 - (X ++ va_pl L f).length = 0 by omega] at hx
        cases hx
        exact Nat.le_refl _
    have hr : ∀ (k9 : Nat) (x : Nat × va_E), (((List.range n.toNatClampNeg).map (fun i => H.size + 1 + i)).map (fun a => ((a, .inl (cy, z)) : Nat × va_E)))[k9]? = some x → x.1 = H.size + 1 + k9 := fun k9 x hx => by
      rw [List.getElem?_map, List.getElem?_map] at hx
      by_cases h9 : k9 < n.toNatClampNeg
      · rw [List.getElem?_range h9] at hx
        cases hx
        rfl
      · have hn0 : (List.range n.toNatClampNeg)[k9]? = none := List.getElem?_eq_none (by rw [List.length_range]; omega)
        rw [hn0] at hx
        cases hx
    refine ⟨fun i j x y hi hj hxy => ?_, fun k9 x hx => ?_⟩
    · by_cases h1 : i < W1.length <;> by_cases h2 : j < W1.length
      · rw [List.getElem?_append_left h1] at hi
        rw [List.getElem?_append_left h2] at hj
        exact hD1.1 i j x y hi hj hxy
      · rw [List.getElem?_append_left h1] at hi
        rw [List.getElem?_append_right (by omega)] at hj
        have := hle _ _ hi
        have := hr _ _ hj
        omega
      · rw [List.getElem?_append_right (by omega)] at hi
        rw [List.getElem?_append_left h2] at hj
        have := hle _ _ hj
        have := hr _ _ hi
        omega
      · rw [List.getElem?_append_right (by omega)] at hi hj
        have := hr _ _ hi
        have := hr _ _ hj
        omega
    · by_cases h1 : k9 < W1.length
      · rw [List.getElem?_append_left h1] at hx
        exact hD1.2 k9 x hx
      · rw [List.getElem?_append_right (by omega)] at hx
        have := hr _ _ hx
        exact hA _ (by have := hS.1; omega)
  have hAr : ArrOfT s cA (.array ty) := fun N9 z9 => by
    obtain ⟨-, k9, hk9, cm9, hkk9⟩ := (hO 0 0 0).1
    exact ⟨(fun q hq => by cases hq), k9, hk9, cm9, hkk9⟩
  have hK2 : va_K D cl (tys ++ [(cA, .array ty)]) s := ⟨hK.1, fun k9 x hx => by
    by_cases hl : k9 < tys.length
    · rw [List.getElem?_append_left hl] at hx
      exact hK.2 k9 x hx
    · rw [List.getElem?_append_right (by omega)] at hx
      have h0 : k9 - tys.length < 1 := (List.getElem?_eq_some_iff.mp hx).1
      rw [show k9 - tys.length = 0 by omega] at hx
      cases hx
      exact ⟨hAr, fA⟩⟩
  obtain ⟨t, a1, b1⟩ := kk H.size (fun i => H.size + 1 + i) cA F.heap (fun i j _ _ h => by have h9 : H.size + 1 + i = H.size + 1 + j := h; omega) hnl hK2 (by rw [← vr_rows hnm]; exact vr_lay hP2) (by rw [← vr_rows hnm]; exact vr_layD hD2) ⟨by rw [f1]; have := hS.1; omega, fun x h1 h2 => (hold x (Nat.lt_of_lt_of_le h1 hS.1)).trans (hS.2.1 x h1 h2), hS.2.2⟩ F rfl X'
  refine ⟨t, step t ?_, b1⟩
  have e : T.heap.size = H.size := by rw [hT]
  rw [e]
  exact a1
end VGM
/-! ===== END ===== -/

/-! ===== BEGIN printed: names, fields, word lists, decode rows ===== -/
def RX0 : String := "ScaleGroups$Labels"
def TX0 : u_T := fun k => match k with
  | 0 => ("ScaleGroups$Labels", "count", "I", false)
  | 1 => ("ScaleGroups$Labels", "visible", "[I", true)
  | _ => ("ScaleGroups$Labels", "holders", "[I", true)
def tyX0 : Nat → FieldType := fun k => match k with
  | 0 => .int
  | 1 => .array .int
  | _ => .array .int
abbrev wsX00 : List Cond := u_ws RX0 TX0 3
theorem nmX0 : ∀ a, a < 3 → ∀ b, b < 3 → a ≠ b → (TX0 a).2.1 ≠ (TX0 b).2.1 := by decide +kernel
theorem tyX0_ok : ∀ k, k < 3 → parseFieldDescriptor (TX0 k).2.2.1 = some (tyX0 k) := by decide +kernel
abbrev cX0_init : ByteArray := prog_2_method_1_code
def yX0_init : MethodName := ⟨RX0, "<init>", "()V"⟩
abbrev cX0_lay : ByteArray := prog_2_method_2_code
def yX0_lay : MethodName := ⟨RX0, "lay", "(LScaleGroups$Scale;I)V"⟩
abbrev cX0_isClear : ByteArray := prog_2_method_3_code
def yX0_isClear : MethodName := ⟨RX0, "isClear", "(LScaleGroups$Scale;II)Z"⟩
abbrev cX0_nearestTo : ByteArray := prog_2_method_4_code
def yX0_nearestTo : MethodName := ⟨RX0, "nearestTo", "(LScaleGroups$Scale;I)I"⟩
abbrev cX0_countedWith : ByteArray := prog_2_method_5_code
def yX0_countedWith : MethodName := ⟨RX0, "countedWith", "(II)I"⟩
def RX1 : String := "ScaleGroups$Lasting"
def TX1 : u_T := fun k => match k with
  | 0 => ("ScaleGroups$Lasting", "total", "I", false)
  | 1 => ("ScaleGroups$Lasting", "count", "I", false)
  | 2 => ("ScaleGroups$Lasting", "totals", "[I", true)
  | 3 => ("ScaleGroups$Lasting", "open", "[Z", true)
  | _ => ("ScaleGroups$Lasting", "nodesByLeast", "[I", true)
def tyX1 : Nat → FieldType := fun k => match k with
  | 0 => .int
  | 1 => .int
  | 2 => .array .int
  | 3 => .array .boolean
  | _ => .array .int
abbrev wsX10 : List Cond := u_ws RX1 TX1 5
theorem nmX1 : ∀ a, a < 5 → ∀ b, b < 5 → a ≠ b → (TX1 a).2.1 ≠ (TX1 b).2.1 := by decide +kernel
theorem tyX1_ok : ∀ k, k < 5 → parseFieldDescriptor (TX1 k).2.2.1 = some (tyX1 k) := by decide +kernel
abbrev cX1_init : ByteArray := prog_3_method_1_code
def yX1_init : MethodName := ⟨RX1, "<init>", "()V"⟩
abbrev cX1_choose : ByteArray := prog_3_method_2_code
def yX1_choose : MethodName := ⟨RX1, "choose", "(LScaleGroups$Order;)V"⟩
abbrev cX1_sidesTotal : ByteArray := prog_3_method_3_code
def yX1_sidesTotal : MethodName := ⟨RX1, "sidesTotal", "(LScaleGroups$Order;I)I"⟩
abbrev cX1_totalOf : ByteArray := prog_3_method_4_code
def yX1_totalOf : MethodName := ⟨RX1, "totalOf", "(LScaleGroups$Order;I)I"⟩
abbrev cX1_chooseJoins : ByteArray := prog_3_method_5_code
def yX1_chooseJoins : MethodName := ⟨RX1, "chooseJoins", "(LScaleGroups$Order;)V"⟩
abbrev cX1_openNode : ByteArray := prog_3_method_6_code
def yX1_openNode : MethodName := ⟨RX1, "openNode", "(LScaleGroups$Order;I)V"⟩
abbrev cX1_put : ByteArray := prog_3_method_7_code
def yX1_put : MethodName := ⟨RX1, "put", "(LScaleGroups$Order;I)V"⟩
abbrev cX1_nth : ByteArray := prog_3_method_8_code
def yX1_nth : MethodName := ⟨RX1, "nth", "(II)I"⟩
def RX2 : String := "ScaleGroups$Order"
def TX2 : u_T := fun k => match k with
  | 0 => ("ScaleGroups$Order", "points", "LScaleGroups$Points;", true)
  | 1 => ("ScaleGroups$Order", "count", "I", false)
  | 2 => ("ScaleGroups$Order", "keys", "[J", true)
  | 3 => ("ScaleGroups$Order", "aparts", "[I", true)
  | 4 => ("ScaleGroups$Order", "roots", "[I", true)
  | 5 => ("ScaleGroups$Order", "firsts", "[I", true)
  | 6 => ("ScaleGroups$Order", "seconds", "[I", true)
  | 7 => ("ScaleGroups$Order", "parts", "[I", true)
  | 8 => ("ScaleGroups$Order", "firstSides", "[I", true)
  | 9 => ("ScaleGroups$Order", "otherSides", "[I", true)
  | 10 => ("ScaleGroups$Order", "joinsAbove", "[I", true)
  | 11 => ("ScaleGroups$Order", "pointsAbove", "[I", true)
  | 12 => ("ScaleGroups$Order", "pairs", "[J", true)
  | 13 => ("ScaleGroups$Order", "links", "[J", true)
  | _ => ("ScaleGroups$Order", "nodes", "[I", true)
def tyX2 : Nat → FieldType := fun k => match k with
  | 0 => .object "ScaleGroups$Points"
  | 1 => .int
  | 2 => .array .long
  | 3 => .array .int
  | 4 => .array .int
  | 5 => .array .int
  | 6 => .array .int
  | 7 => .array .int
  | 8 => .array .int
  | 9 => .array .int
  | 10 => .array .int
  | 11 => .array .int
  | 12 => .array .long
  | 13 => .array .long
  | _ => .array .int
abbrev wsX20 : List Cond := u_ws RX2 TX2 15
theorem nmX2 : ∀ a, a < 15 → ∀ b, b < 15 → a ≠ b → (TX2 a).2.1 ≠ (TX2 b).2.1 := by decide +kernel
theorem tyX2_ok : ∀ k, k < 15 → parseFieldDescriptor (TX2 k).2.2.1 = some (tyX2 k) := by decide +kernel
abbrev cX2_init : ByteArray := prog_4_method_1_code
def yX2_init : MethodName := ⟨RX2, "<init>", "()V"⟩
abbrev cX2_rebuild : ByteArray := prog_4_method_2_code
def yX2_rebuild : MethodName := ⟨RX2, "rebuild", "()V"⟩
abbrev cX2_growTree : ByteArray := prog_4_method_3_code
def yX2_growTree : MethodName := ⟨RX2, "growTree", "()V"⟩
abbrev cX2_nextToGrow : ByteArray := prog_4_method_4_code
def yX2_nextToGrow : MethodName := ⟨RX2, "nextToGrow", "(I)I"⟩
abbrev cX2_keyOf : ByteArray := prog_4_method_5_code
def yX2_keyOf : MethodName := ⟨RX2, "keyOf", "(II)J"⟩
abbrev cX2_putKey : ByteArray := prog_4_method_6_code
def yX2_putKey : MethodName := ⟨RX2, "putKey", "(J)V"⟩
abbrev cX2_makeJoin : ByteArray := prog_4_method_7_code
def yX2_makeJoin : MethodName := ⟨RX2, "makeJoin", "(I)V"⟩
abbrev cX2_placeOf : ByteArray := prog_4_method_8_code
def yX2_placeOf : MethodName := ⟨RX2, "placeOf", "(I)J"⟩
abbrev cX2_putBelow : ByteArray := prog_4_method_9_code
def yX2_putBelow : MethodName := ⟨RX2, "putBelow", "(II)V"⟩
abbrev cX2_joinOf : ByteArray := prog_4_method_10_code
def yX2_joinOf : MethodName := ⟨RX2, "joinOf", "(I)I"⟩
abbrev cX2_setOf : ByteArray := prog_4_method_11_code
def yX2_setOf : MethodName := ⟨RX2, "setOf", "(I)I"⟩
abbrev cX2_lastsOf : ByteArray := prog_4_method_12_code
def yX2_lastsOf : MethodName := ⟨RX2, "lastsOf", "(I)I"⟩
abbrev cX2_weightTill : ByteArray := prog_4_method_13_code
def yX2_weightTill : MethodName := ⟨RX2, "weightTill", "(III)I"⟩
abbrev cX2_partOf : ByteArray := prog_4_method_14_code
def yX2_partOf : MethodName := ⟨RX2, "partOf", "(II)I"⟩
abbrev cX2_joinsWithin : ByteArray := prog_4_method_15_code
def yX2_joinsWithin : MethodName := ⟨RX2, "joinsWithin", "(I)I"⟩
abbrev cX2_meeting : ByteArray := prog_4_method_16_code
def yX2_meeting : MethodName := ⟨RX2, "meeting", "(II)I"⟩
abbrev cX2_makerOf : ByteArray := prog_4_method_17_code
def yX2_makerOf : MethodName := ⟨RX2, "makerOf", "(I)I"⟩
abbrev cX2_linksOf : ByteArray := prog_4_method_18_code
def yX2_linksOf : MethodName := ⟨RX2, "linksOf", "(I)I"⟩
abbrev cX2_mostLinks : ByteArray := prog_4_method_19_code
def yX2_mostLinks : MethodName := ⟨RX2, "mostLinks", "()I"⟩
abbrev cX2_sumAparts : ByteArray := prog_4_method_20_code
def yX2_sumAparts : MethodName := ⟨RX2, "sumAparts", "()I"⟩
abbrev cX2_sumRoots : ByteArray := prog_4_method_21_code
def yX2_sumRoots : MethodName := ⟨RX2, "sumRoots", "()I"⟩
abbrev cX2_hasPair : ByteArray := prog_4_method_22_code
def yX2_hasPair : MethodName := ⟨RX2, "hasPair", "(J)Z"⟩
abbrev cX2_countUnlike : ByteArray := prog_4_method_23_code
def yX2_countUnlike : MethodName := ⟨RX2, "countUnlike", "(LScaleGroups$Order;)I"⟩
abbrev cX2_sameFromFirst : ByteArray := prog_4_method_24_code
def yX2_sameFromFirst : MethodName := ⟨RX2, "sameFromFirst", "(LScaleGroups$Order;)I"⟩
def RX3 : String := "ScaleGroups$Outline"
def TX3 : u_T := fun k => match k with
  | 0 => ("ScaleGroups$Outline", "count", "I", false)
  | _ => ("ScaleGroups$Outline", "row", "[I", true)
def tyX3 : Nat → FieldType := fun k => match k with
  | 0 => .int
  | _ => .array .int
abbrev wsX30 : List Cond := u_ws RX3 TX3 2
theorem nmX3 : ∀ a, a < 2 → ∀ b, b < 2 → a ≠ b → (TX3 a).2.1 ≠ (TX3 b).2.1 := by decide +kernel
theorem tyX3_ok : ∀ k, k < 2 → parseFieldDescriptor (TX3 k).2.2.1 = some (tyX3 k) := by decide +kernel
abbrev cX3_init : ByteArray := prog_5_method_1_code
def yX3_init : MethodName := ⟨RX3, "<init>", "()V"⟩
abbrev cX3_draw : ByteArray := prog_5_method_2_code
def yX3_draw : MethodName := ⟨RX3, "draw", "(LScaleGroups$Points;I)V"⟩
abbrev cX3_turnTo : ByteArray := prog_5_method_3_code
def yX3_turnTo : MethodName := ⟨RX3, "turnTo", "(LScaleGroups$Points;II)V"⟩
abbrev cX3_cross : ByteArray := prog_5_method_4_code
def yX3_cross : MethodName := ⟨RX3, "cross", "(LScaleGroups$Points;III)I"⟩
abbrev cX3_twiceArea : ByteArray := prog_5_method_5_code
def yX3_twiceArea : MethodName := ⟨RX3, "twiceArea", "(LScaleGroups$Points;)I"⟩
def RX4 : String := "ScaleGroups$Points"
def TX4 : u_T := fun k => match k with
  | 0 => ("ScaleGroups$Points", "count", "I", false)
  | 1 => ("ScaleGroups$Points", "xs", "[I", true)
  | 2 => ("ScaleGroups$Points", "ys", "[I", true)
  | _ => ("ScaleGroups$Points", "ws", "[I", true)
def tyX4 : Nat → FieldType := fun k => match k with
  | 0 => .int
  | 1 => .array .int
  | 2 => .array .int
  | _ => .array .int
abbrev wsX40 : List Cond := u_ws RX4 TX4 4
theorem nmX4 : ∀ a, a < 4 → ∀ b, b < 4 → a ≠ b → (TX4 a).2.1 ≠ (TX4 b).2.1 := by decide +kernel
theorem tyX4_ok : ∀ k, k < 4 → parseFieldDescriptor (TX4 k).2.2.1 = some (tyX4 k) := by decide +kernel
abbrev cX4_init : ByteArray := prog_6_method_1_code
def yX4_init : MethodName := ⟨RX4, "<init>", "()V"⟩
abbrev cX4_canCome : ByteArray := prog_6_method_2_code
def yX4_canCome : MethodName := ⟨RX4, "canCome", "(II)Z"⟩
abbrev cX4_find : ByteArray := prog_6_method_3_code
def yX4_find : MethodName := ⟨RX4, "find", "(II)I"⟩
abbrev cX4_put : ByteArray := prog_6_method_4_code
def yX4_put : MethodName := ⟨RX4, "put", "(III)V"⟩
abbrev cX4_drop : ByteArray := prog_6_method_5_code
def yX4_drop : MethodName := ⟨RX4, "drop", "(I)V"⟩
abbrev cX4_move : ByteArray := prog_6_method_6_code
def yX4_move : MethodName := ⟨RX4, "move", "(II)V"⟩
abbrev cX4_copy : ByteArray := prog_6_method_7_code
def yX4_copy : MethodName := ⟨RX4, "copy", "(LScaleGroups$Points;)V"⟩
abbrev cX4_squares : ByteArray := prog_6_method_8_code
def yX4_squares : MethodName := ⟨RX4, "squares", "(III)I"⟩
abbrev cX4_apart : ByteArray := prog_6_method_9_code
def yX4_apart : MethodName := ⟨RX4, "apart", "(II)I"⟩
abbrev cX4_nearestTo : ByteArray := prog_6_method_10_code
def yX4_nearestTo : MethodName := ⟨RX4, "nearestTo", "(I)I"⟩
abbrev cX4_apartFromNearest : ByteArray := prog_6_method_11_code
def yX4_apartFromNearest : MethodName := ⟨RX4, "apartFromNearest", "(I)I"⟩
abbrev cX4_within : ByteArray := prog_6_method_12_code
def yX4_within : MethodName := ⟨RX4, "within", "(IIII)I"⟩
abbrev cX4_weightOf : ByteArray := prog_6_method_13_code
def yX4_weightOf : MethodName := ⟨RX4, "weightOf", "(I)I"⟩
abbrev cX4_heaviestOf : ByteArray := prog_6_method_14_code
def yX4_heaviestOf : MethodName := ⟨RX4, "heaviestOf", "(I)I"⟩
abbrev cX4_wide : ByteArray := prog_6_method_15_code
def yX4_wide : MethodName := ⟨RX4, "wide", "(I)I"⟩
def RX5 : String := "ScaleGroups$Scale"
def TX5 : u_T := fun k => match k with
  | 0 => ("ScaleGroups$Scale", "count", "I", false)
  | 1 => ("ScaleGroups$Scale", "sets", "[I", true)
  | 2 => ("ScaleGroups$Scale", "weights", "[I", true)
  | 3 => ("ScaleGroups$Scale", "xs", "[I", true)
  | 4 => ("ScaleGroups$Scale", "ys", "[I", true)
  | _ => ("ScaleGroups$Scale", "groupAt", "[I", true)
def tyX5 : Nat → FieldType := fun k => match k with
  | 0 => .int
  | 1 => .array .int
  | 2 => .array .int
  | 3 => .array .int
  | 4 => .array .int
  | _ => .array .int
abbrev wsX50 : List Cond := u_ws RX5 TX5 6
theorem nmX5 : ∀ a, a < 6 → ∀ b, b < 6 → a ≠ b → (TX5 a).2.1 ≠ (TX5 b).2.1 := by decide +kernel
theorem tyX5_ok : ∀ k, k < 6 → parseFieldDescriptor (TX5 k).2.2.1 = some (tyX5 k) := by decide +kernel
abbrev cX5_init : ByteArray := prog_7_method_1_code
def yX5_init : MethodName := ⟨RX5, "<init>", "()V"⟩
abbrev cX5_cut : ByteArray := prog_7_method_2_code
def yX5_cut : MethodName := ⟨RX5, "cut", "(LScaleGroups$Order;I)V"⟩
abbrev cX5_gather : ByteArray := prog_7_method_3_code
def yX5_gather : MethodName := ⟨RX5, "gather", "(LScaleGroups$Points;I)V"⟩
abbrev cX5_groupsWithin : ByteArray := prog_7_method_4_code
def yX5_groupsWithin : MethodName := ⟨RX5, "groupsWithin", "(I)I"⟩
abbrev cX5_groupOfPart : ByteArray := prog_7_method_5_code
def yX5_groupOfPart : MethodName := ⟨RX5, "groupOfPart", "(I)I"⟩
abbrev cX5_centresIn : ByteArray := prog_7_method_6_code
def yX5_centresIn : MethodName := ⟨RX5, "centresIn", "(IIII)I"⟩
abbrev cX5_weightOf : ByteArray := prog_7_method_7_code
def yX5_weightOf : MethodName := ⟨RX5, "weightOf", "(I)I"⟩
abbrev cX5_heaviest : ByteArray := prog_7_method_8_code
def yX5_heaviest : MethodName := ⟨RX5, "heaviest", "(II)I"⟩
abbrev cX5_countAhead : ByteArray := prog_7_method_9_code
def yX5_countAhead : MethodName := ⟨RX5, "countAhead", "(II)I"⟩
abbrev cX5_gap : ByteArray := prog_7_method_10_code
def yX5_gap : MethodName := ⟨RX5, "gap", "(II)I"⟩
def RX6 : String := "ScaleGroups$Sets"
def TX6 : u_T := fun k => match k with
  | _ => ("", "", "", false)
def tyX6 : Nat → FieldType := fun k => match k with
  | _ => .int
abbrev wsX60 : List Cond := u_ws RX6 TX6 0
theorem nmX6 : ∀ a, a < 0 → ∀ b, b < 0 → a ≠ b → (TX6 a).2.1 ≠ (TX6 b).2.1 := by decide +kernel
theorem tyX6_ok : ∀ k, k < 0 → parseFieldDescriptor (TX6 k).2.2.1 = some (tyX6 k) := by decide +kernel
abbrev cX6_has : ByteArray := prog_8_method_2_code
def yX6_has : MethodName := ⟨RX6, "has", "(II)Z"⟩
abbrev cX6_first : ByteArray := prog_8_method_3_code
def yX6_first : MethodName := ⟨RX6, "first", "(I)I"⟩
abbrev cX6_least : ByteArray := prog_8_method_4_code
def yX6_least : MethodName := ⟨RX6, "least", "(I)I"⟩
abbrev cX6_nth : ByteArray := prog_8_method_5_code
def yX6_nth : MethodName := ⟨RX6, "nth", "(II)I"⟩
abbrev cX6_lowest : ByteArray := prog_8_method_6_code
def yX6_lowest : MethodName := ⟨RX6, "lowest", "([II)I"⟩
abbrev cX6_highest : ByteArray := prog_8_method_7_code
def yX6_highest : MethodName := ⟨RX6, "highest", "([II)I"⟩
abbrev cX6_farther : ByteArray := prog_8_method_8_code
def yX6_farther : MethodName := ⟨RX6, "farther", "(II)I"⟩
abbrev cX6_root : ByteArray := prog_8_method_9_code
def yX6_root : MethodName := ⟨RX6, "root", "(I)I"⟩
def RX7 : String := "ScaleGroups$Ways"
def TX7 : u_T := fun k => match k with
  | _ => ("ScaleGroups$Ways", "far", "[[I", true)
def tyX7 : Nat → FieldType := fun k => match k with
  | _ => .array (.array .int)
abbrev wsX70 : List Cond := u_ws RX7 TX7 1
theorem nmX7 : ∀ a, a < 1 → ∀ b, b < 1 → a ≠ b → (TX7 a).2.1 ≠ (TX7 b).2.1 := by decide +kernel
theorem tyX7_ok : ∀ k, k < 1 → parseFieldDescriptor (TX7 k).2.2.1 = some (tyX7 k) := by decide +kernel
abbrev cX7_init : ByteArray := prog_9_method_1_code
def yX7_init : MethodName := ⟨RX7, "<init>", "()V"⟩
abbrev cX7_measure : ByteArray := prog_9_method_2_code
def yX7_measure : MethodName := ⟨RX7, "measure", "(LScaleGroups$Order;Z)V"⟩
abbrev cX7_link : ByteArray := prog_9_method_3_code
def yX7_link : MethodName := ⟨RX7, "link", "(LScaleGroups$Order;II)V"⟩
def RX8 : String := "ScaleGroups"
def TX8 : u_T := fun k => match k with
  | 0 => ("ScaleGroups", "now", "LScaleGroups$Order;", false)
  | 1 => ("ScaleGroups", "ahead", "LScaleGroups$Order;", false)
  | 2 => ("ScaleGroups", "tried", "LScaleGroups$Order;", true)
  | 3 => ("ScaleGroups", "scale", "LScaleGroups$Scale;", true)
  | 4 => ("ScaleGroups", "other", "LScaleGroups$Scale;", true)
  | 5 => ("ScaleGroups", "labels", "LScaleGroups$Labels;", true)
  | 6 => ("ScaleGroups", "corners", "LScaleGroups$Outline;", true)
  | 7 => ("ScaleGroups", "ways", "LScaleGroups$Ways;", true)
  | 8 => ("ScaleGroups", "lasting", "LScaleGroups$Lasting;", true)
  | 9 => ("ScaleGroups", "row", "[I", true)
  | 10 => ("ScaleGroups", "labelSize", "I", false)
  | _ => ("ScaleGroups", "drawState", "I", false)
def tyX8 : Nat → FieldType := fun k => match k with
  | 0 => .object "ScaleGroups$Order"
  | 1 => .object "ScaleGroups$Order"
  | 2 => .object "ScaleGroups$Order"
  | 3 => .object "ScaleGroups$Scale"
  | 4 => .object "ScaleGroups$Scale"
  | 5 => .object "ScaleGroups$Labels"
  | 6 => .object "ScaleGroups$Outline"
  | 7 => .object "ScaleGroups$Ways"
  | 8 => .object "ScaleGroups$Lasting"
  | 9 => .array .int
  | 10 => .int
  | _ => .int
abbrev wsX80 : List Cond := u_ws RX8 TX8 12
theorem nmX8 : ∀ a, a < 12 → ∀ b, b < 12 → a ≠ b → (TX8 a).2.1 ≠ (TX8 b).2.1 := by decide +kernel
theorem tyX8_ok : ∀ k, k < 12 → parseFieldDescriptor (TX8 k).2.2.1 = some (tyX8 k) := by decide +kernel
abbrev cX8_init : ByteArray := prog_1_method_1_code
def yX8_init : MethodName := ⟨RX8, "<init>", "()V"⟩
abbrev cX8_add : ByteArray := prog_1_method_2_code
def yX8_add : MethodName := ⟨RX8, "add", "(III)I"⟩
abbrev cX8_take : ByteArray := prog_1_method_3_code
def yX8_take : MethodName := ⟨RX8, "take", "(I)I"⟩
abbrev cX8_weigh : ByteArray := prog_1_method_4_code
def yX8_weigh : MethodName := ⟨RX8, "weigh", "(II)I"⟩
abbrev cX8_scatter : ByteArray := prog_1_method_5_code
def yX8_scatter : MethodName := ⟨RX8, "scatter", "(I)I"⟩
abbrev cX8_state : ByteArray := prog_1_method_6_code
def yX8_state : MethodName := ⟨RX8, "state", "(I)I"⟩
abbrev cX8_clear : ByteArray := prog_1_method_7_code
def yX8_clear : MethodName := ⟨RX8, "clear", "()I"⟩
abbrev cX8_size : ByteArray := prog_1_method_8_code
def yX8_size : MethodName := ⟨RX8, "size", "(I)I"⟩
abbrev cX8_point : ByteArray := prog_1_method_9_code
def yX8_point : MethodName := ⟨RX8, "point", "(II)I"⟩
abbrev cX8_at : ByteArray := prog_1_method_10_code
def yX8_at : MethodName := ⟨RX8, "at", "(II)I"⟩
abbrev cX8_near : ByteArray := prog_1_method_11_code
def yX8_near : MethodName := ⟨RX8, "near", "(III)I"⟩
abbrev cX8_join : ByteArray := prog_1_method_12_code
def yX8_join : MethodName := ⟨RX8, "join", "(II)I"⟩
abbrev cX8_meets : ByteArray := prog_1_method_13_code
def yX8_meets : MethodName := ⟨RX8, "meets", "(II)I"⟩
abbrev cX8_path : ByteArray := prog_1_method_14_code
def yX8_path : MethodName := ⟨RX8, "path", "(III)I"⟩
abbrev cX8_longest : ByteArray := prog_1_method_15_code
def yX8_longest : MethodName := ⟨RX8, "longest", "(I)I"⟩
abbrev cX8_zoom : ByteArray := prog_1_method_16_code
def yX8_zoom : MethodName := ⟨RX8, "zoom", "(II)I"⟩
abbrev cX8_groups : ByteArray := prog_1_method_17_code
def yX8_groups : MethodName := ⟨RX8, "groups", "(I)I"⟩
abbrev cX8_groupOf : ByteArray := prog_1_method_18_code
def yX8_groupOf : MethodName := ⟨RX8, "groupOf", "(II)I"⟩
abbrev cX8_group : ByteArray := prog_1_method_19_code
def yX8_group : MethodName := ⟨RX8, "group", "(III)I"⟩
abbrev cX8_member : ByteArray := prog_1_method_20_code
def yX8_member : MethodName := ⟨RX8, "member", "(III)I"⟩
abbrev cX8_splits : ByteArray := prog_1_method_21_code
def yX8_splits : MethodName := ⟨RX8, "splits", "(III)I"⟩
abbrev cX8_window : ByteArray := prog_1_method_22_code
def yX8_window : MethodName := ⟨RX8, "window", "(IIIIII)I"⟩
abbrev cX8_top : ByteArray := prog_1_method_23_code
def yX8_top : MethodName := ⟨RX8, "top", "(IIIIII)I"⟩
abbrev cX8_filled : ByteArray := prog_1_method_24_code
def yX8_filled : MethodName := ⟨RX8, "filled", "(II)I"⟩
abbrev cX8_densest : ByteArray := prog_1_method_25_code
def yX8_densest : MethodName := ⟨RX8, "densest", "(II)I"⟩
abbrev cX8_cover : ByteArray := prog_1_method_26_code
def yX8_cover : MethodName := ⟨RX8, "cover", "(II)I"⟩
abbrev cX8_outline : ByteArray := prog_1_method_27_code
def yX8_outline : MethodName := ⟨RX8, "outline", "(III)I"⟩
abbrev cX8_area : ByteArray := prog_1_method_28_code
def yX8_area : MethodName := ⟨RX8, "area", "(II)I"⟩
abbrev cX8_drift : ByteArray := prog_1_method_29_code
def yX8_drift : MethodName := ⟨RX8, "drift", "(I)I"⟩
abbrev cX8_tile : ByteArray := prog_1_method_30_code
def yX8_tile : MethodName := ⟨RX8, "tile", "(IIII)I"⟩
abbrev cX8_part : ByteArray := prog_1_method_31_code
def yX8_part : MethodName := ⟨RX8, "part", "(II)I"⟩
abbrev cX8_clearest : ByteArray := prog_1_method_32_code
def yX8_clearest : MethodName := ⟨RX8, "clearest", "()I"⟩
abbrev cX8_best : ByteArray := prog_1_method_33_code
def yX8_best : MethodName := ⟨RX8, "best", "(I)I"⟩
abbrev cX8_shown : ByteArray := prog_1_method_34_code
def yX8_shown : MethodName := ⟨RX8, "shown", "(I)I"⟩
abbrev cX8_label : ByteArray := prog_1_method_35_code
def yX8_label : MethodName := ⟨RX8, "label", "(III)I"⟩
abbrev cX8_counted : ByteArray := prog_1_method_36_code
def yX8_counted : MethodName := ⟨RX8, "counted", "(II)I"⟩
abbrev cX8_repaired : ByteArray := prog_1_method_37_code
def yX8_repaired : MethodName := ⟨RX8, "repaired", "(I)I"⟩
abbrev cX8_would : ByteArray := prog_1_method_38_code
def yX8_would : MethodName := ⟨RX8, "would", "(III)I"⟩
abbrev cX8_stirred : ByteArray := prog_1_method_39_code
def yX8_stirred : MethodName := ⟨RX8, "stirred", "(I)I"⟩
abbrev cX8_look : ByteArray := prog_1_method_40_code
def yX8_look : MethodName := ⟨RX8, "look", "(I)I"⟩
abbrev cX8_isZoom : ByteArray := prog_1_method_41_code
def yX8_isZoom : MethodName := ⟨RX8, "isZoom", "(I)Z"⟩
abbrev cX8_isWeight : ByteArray := prog_1_method_42_code
def yX8_isWeight : MethodName := ⟨RX8, "isWeight", "(I)Z"⟩
abbrev cX8_isNearPlace : ByteArray := prog_1_method_43_code
def yX8_isNearPlace : MethodName := ⟨RX8, "isNearPlace", "(I)Z"⟩
abbrev cX8_isTile : ByteArray := prog_1_method_44_code
def yX8_isTile : MethodName := ⟨RX8, "isTile", "(II)Z"⟩
abbrev cX8_isPoint : ByteArray := prog_1_method_45_code
def yX8_isPoint : MethodName := ⟨RX8, "isPoint", "(I)Z"⟩
abbrev cX8_cutsGroup : ByteArray := prog_1_method_46_code
def yX8_cutsGroup : MethodName := ⟨RX8, "cutsGroup", "(II)Z"⟩
abbrev cX8_startRepair : ByteArray := prog_1_method_47_code
def yX8_startRepair : MethodName := ⟨RX8, "startRepair", "()V"⟩
abbrev cX8_draw : ByteArray := prog_1_method_48_code
def yX8_draw : MethodName := ⟨RX8, "draw", "(I)I"⟩
abbrev cX8_layLabels : ByteArray := prog_1_method_49_code
def yX8_layLabels : MethodName := ⟨RX8, "layLabels", "(I)V"⟩
abbrev cX8_rankInRow : ByteArray := prog_1_method_50_code
def yX8_rankInRow : MethodName := ⟨RX8, "rankInRow", "(II)I"⟩
abbrev cX8_nextInRow : ByteArray := prog_1_method_51_code
def yX8_nextInRow : MethodName := ⟨RX8, "nextInRow", "(II)I"⟩
abbrev cX8_countSplits : ByteArray := prog_1_method_52_code
def yX8_countSplits : MethodName := ⟨RX8, "countSplits", "(II)I"⟩
abbrev cX8_pointsInTile : ByteArray := prog_1_method_53_code
def yX8_pointsInTile : MethodName := ⟨RX8, "pointsInTile", "(III)I"⟩
abbrev cX8_filledQuarters : ByteArray := prog_1_method_54_code
def yX8_filledQuarters : MethodName := ⟨RX8, "filledQuarters", "(III)I"⟩
abbrev cX8_widestTile : ByteArray := prog_1_method_55_code
def yX8_widestTile : MethodName := ⟨RX8, "widestTile", "(II)I"⟩
abbrev cX8_groupsOfAllZooms : ByteArray := prog_1_method_56_code
def yX8_groupsOfAllZooms : MethodName := ⟨RX8, "groupsOfAllZooms", "()I"⟩
def RX9 : String := "ScaleGroupsModel"
def TX9 : u_T := fun k => match k with
  | 0 => ("ScaleGroupsModel", "told", "I", false)
  | 1 => ("ScaleGroupsModel", "n", "I", false)
  | 2 => ("ScaleGroupsModel", "x", "[I", true)
  | 3 => ("ScaleGroupsModel", "y", "[I", true)
  | 4 => ("ScaleGroupsModel", "w", "[I", true)
  | 5 => ("ScaleGroupsModel", "size", "I", false)
  | 6 => ("ScaleGroupsModel", "state", "I", false)
  | 7 => ("ScaleGroupsModel", "first", "[I", true)
  | 8 => ("ScaleGroupsModel", "second", "[I", true)
  | 9 => ("ScaleGroupsModel", "wide", "[I", true)
  | 10 => ("ScaleGroupsModel", "madeSet", "[I", true)
  | 11 => ("ScaleGroupsModel", "oneSide", "[I", true)
  | 12 => ("ScaleGroupsModel", "otherSide", "[I", true)
  | 13 => ("ScaleGroupsModel", "aboveJoin", "[I", true)
  | 14 => ("ScaleGroupsModel", "abovePoint", "[I", true)
  | 15 => ("ScaleGroupsModel", "nodeOf", "[I", true)
  | 16 => ("ScaleGroupsModel", "setOf", "[I", true)
  | 17 => ("ScaleGroupsModel", "wasPlace", "[I", true)
  | 18 => ("ScaleGroupsModel", "wasMany", "I", false)
  | 19 => ("ScaleGroupsModel", "wasOne", "[I", true)
  | 20 => ("ScaleGroupsModel", "wasOther", "[I", true)
  | 21 => ("ScaleGroupsModel", "wasWide", "[I", true)
  | 22 => ("ScaleGroupsModel", "isRepaired", "Z", false)
  | 23 => ("ScaleGroupsModel", "way", "[I", true)
  | 24 => ("ScaleGroupsModel", "wayLong", "I", false)
  | 25 => ("ScaleGroupsModel", "partOf", "[I", true)
  | 26 => ("ScaleGroupsModel", "corner", "[I", true)
  | 27 => ("ScaleGroupsModel", "corners", "I", false)
  | 28 => ("ScaleGroupsModel", "ahead", "[I", true)
  | 29 => ("ScaleGroupsModel", "bestNode", "[I", true)
  | 30 => ("ScaleGroupsModel", "bestMany", "I", false)
  | 31 => ("ScaleGroupsModel", "ranked", "[I", true)
  | 32 => ("ScaleGroupsModel", "rankedMany", "I", false)
  | 33 => ("ScaleGroupsModel", "shown", "[I", true)
  | 34 => ("ScaleGroupsModel", "shownMany", "I", false)
  | 35 => ("ScaleGroupsModel", "asideOne", "[I", true)
  | 36 => ("ScaleGroupsModel", "asideOther", "[I", true)
  | _ => ("ScaleGroupsModel", "wasPart", "[I", true)
def tyX9 : Nat → FieldType := fun k => match k with
  | 0 => .int
  | 1 => .int
  | 2 => .array .int
  | 3 => .array .int
  | 4 => .array .int
  | 5 => .int
  | 6 => .int
  | 7 => .array .int
  | 8 => .array .int
  | 9 => .array .int
  | 10 => .array .int
  | 11 => .array .int
  | 12 => .array .int
  | 13 => .array .int
  | 14 => .array .int
  | 15 => .array .int
  | 16 => .array .int
  | 17 => .array .int
  | 18 => .int
  | 19 => .array .int
  | 20 => .array .int
  | 21 => .array .int
  | 22 => .boolean
  | 23 => .array .int
  | 24 => .int
  | 25 => .array .int
  | 26 => .array .int
  | 27 => .int
  | 28 => .array .int
  | 29 => .array .int
  | 30 => .int
  | 31 => .array .int
  | 32 => .int
  | 33 => .array .int
  | 34 => .int
  | 35 => .array .int
  | 36 => .array .int
  | _ => .array .int
abbrev wsX90 : List Cond := u_ws RX9 TX9 38
theorem nmX9 : ∀ a, a < 38 → ∀ b, b < 38 → a ≠ b → (TX9 a).2.1 ≠ (TX9 b).2.1 := by decide +kernel
theorem tyX9_ok : ∀ k, k < 38 → parseFieldDescriptor (TX9 k).2.2.1 = some (tyX9 k) := by decide +kernel
abbrev cX9_init : ByteArray := prog_11_method_1_code
def yX9_init : MethodName := ⟨RX9, "<init>", "()V"⟩
abbrev cX9_isIn : ByteArray := prog_11_method_3_code
def yX9_isIn : MethodName := ⟨RX9, "isIn", "(JJJ)Z"⟩
abbrev cX9_has : ByteArray := prog_11_method_4_code
def yX9_has : MethodName := ⟨RX9, "has", "(II)Z"⟩
abbrev cX9_isPoint : ByteArray := prog_11_method_5_code
def yX9_isPoint : MethodName := ⟨RX9, "isPoint", "(I)Z"⟩
abbrev cX9_isZoom : ByteArray := prog_11_method_6_code
def yX9_isZoom : MethodName := ⟨RX9, "isZoom", "(I)Z"⟩
abbrev cX9_radius : ByteArray := prog_11_method_7_code
def yX9_radius : MethodName := ⟨RX9, "radius", "(I)I"⟩
abbrev cX9_apart : ByteArray := prog_11_method_8_code
def yX9_apart : MethodName := ⟨RX9, "apart", "(II)I"⟩
abbrev cX9_root : ByteArray := prog_11_method_9_code
def yX9_root : MethodName := ⟨RX9, "root", "(I)I"⟩
abbrev cX9_joins : ByteArray := prog_11_method_10_code
def yX9_joins : MethodName := ⟨RX9, "joins", "()I"⟩
abbrev cX9_isSooner : ByteArray := prog_11_method_11_code
def yX9_isSooner : MethodName := ⟨RX9, "isSooner", "(IIII)Z"⟩
abbrev cX9_laysTree : ByteArray := prog_11_method_12_code
def yX9_laysTree : MethodName := ⟨RX9, "laysTree", "()V"⟩
abbrev cX9_laysSides : ByteArray := prog_11_method_13_code
def yX9_laysSides : MethodName := ⟨RX9, "laysSides", "()V"⟩
abbrev cX9_puts : ByteArray := prog_11_method_14_code
def yX9_puts : MethodName := ⟨RX9, "puts", "(II)V"⟩
abbrev cX9_weightOf : ByteArray := prog_11_method_15_code
def yX9_weightOf : MethodName := ⟨RX9, "weightOf", "(I)I"⟩
abbrev cX9_bits : ByteArray := prog_11_method_16_code
def yX9_bits : MethodName := ⟨RX9, "bits", "(I)I"⟩
abbrev cX9_least : ByteArray := prog_11_method_17_code
def yX9_least : MethodName := ⟨RX9, "least", "(I)I"⟩
abbrev cX9_placeOf : ByteArray := prog_11_method_18_code
def yX9_placeOf : MethodName := ⟨RX9, "placeOf", "(I)I"⟩
abbrev cX9_keeps : ByteArray := prog_11_method_19_code
def yX9_keeps : MethodName := ⟨RX9, "keeps", "()V"⟩
abbrev cX9_wasJoins : ByteArray := prog_11_method_20_code
def yX9_wasJoins : MethodName := ⟨RX9, "wasJoins", "()I"⟩
abbrev cX9_areSame : ByteArray := prog_11_method_21_code
def yX9_areSame : MethodName := ⟨RX9, "areSame", "(II)Z"⟩
abbrev cX9_isNew : ByteArray := prog_11_method_22_code
def yX9_isNew : MethodName := ⟨RX9, "isNew", "(I)Z"⟩
abbrev cX9_isGone : ByteArray := prog_11_method_23_code
def yX9_isGone : MethodName := ⟨RX9, "isGone", "(I)Z"⟩
abbrev cX9_newOnes : ByteArray := prog_11_method_24_code
def yX9_newOnes : MethodName := ⟨RX9, "newOnes", "()I"⟩
abbrev cX9_pointAt : ByteArray := prog_11_method_25_code
def yX9_pointAt : MethodName := ⟨RX9, "pointAt", "(II)I"⟩
abbrev cX9_canCome : ByteArray := prog_11_method_26_code
def yX9_canCome : MethodName := ⟨RX9, "canCome", "(II)Z"⟩
abbrev cX9_comes : ByteArray := prog_11_method_27_code
def yX9_comes : MethodName := ⟨RX9, "comes", "(III)V"⟩
abbrev cX9_goes : ByteArray := prog_11_method_28_code
def yX9_goes : MethodName := ⟨RX9, "goes", "(I)V"⟩
abbrev cX9_add : ByteArray := prog_11_method_29_code
def yX9_add : MethodName := ⟨RX9, "add", "(III)I"⟩
abbrev cX9_take : ByteArray := prog_11_method_30_code
def yX9_take : MethodName := ⟨RX9, "take", "(I)I"⟩
abbrev cX9_weigh : ByteArray := prog_11_method_31_code
def yX9_weigh : MethodName := ⟨RX9, "weigh", "(II)I"⟩
abbrev cX9_draw : ByteArray := prog_11_method_32_code
def yX9_draw : MethodName := ⟨RX9, "draw", "(I)I"⟩
abbrev cX9_scatter : ByteArray := prog_11_method_33_code
def yX9_scatter : MethodName := ⟨RX9, "scatter", "(I)I"⟩
abbrev cX9_state : ByteArray := prog_11_method_34_code
def yX9_state : MethodName := ⟨RX9, "state", "(I)I"⟩
abbrev cX9_clear : ByteArray := prog_11_method_35_code
def yX9_clear : MethodName := ⟨RX9, "clear", "()I"⟩
abbrev cX9_size : ByteArray := prog_11_method_36_code
def yX9_size : MethodName := ⟨RX9, "size", "(I)I"⟩
abbrev cX9_nearestOf : ByteArray := prog_11_method_37_code
def yX9_nearestOf : MethodName := ⟨RX9, "nearestOf", "(I)I"⟩
abbrev cX9_linksOf : ByteArray := prog_11_method_38_code
def yX9_linksOf : MethodName := ⟨RX9, "linksOf", "(I)I"⟩
abbrev cX9_point : ByteArray := prog_11_method_39_code
def yX9_point : MethodName := ⟨RX9, "point", "(II)I"⟩
abbrev cX9_at : ByteArray := prog_11_method_40_code
def yX9_at : MethodName := ⟨RX9, "at", "(II)I"⟩
abbrev cX9_farFrom : ByteArray := prog_11_method_41_code
def yX9_farFrom : MethodName := ⟨RX9, "farFrom", "(III)I"⟩
abbrev cX9_near : ByteArray := prog_11_method_42_code
def yX9_near : MethodName := ⟨RX9, "near", "(III)I"⟩
abbrev cX9_isJoin : ByteArray := prog_11_method_43_code
def yX9_isJoin : MethodName := ⟨RX9, "isJoin", "(I)Z"⟩
abbrev cX9_lasts : ByteArray := prog_11_method_44_code
def yX9_lasts : MethodName := ⟨RX9, "lasts", "(I)I"⟩
abbrev cX9_join : ByteArray := prog_11_method_45_code
def yX9_join : MethodName := ⟨RX9, "join", "(II)I"⟩
abbrev cX9_meets : ByteArray := prog_11_method_46_code
def yX9_meets : MethodName := ⟨RX9, "meets", "(II)I"⟩
abbrev cX9_goesAlong : ByteArray := prog_11_method_47_code
def yX9_goesAlong : MethodName := ⟨RX9, "goesAlong", "(III)Z"⟩
abbrev cX9_path : ByteArray := prog_11_method_48_code
def yX9_path : MethodName := ⟨RX9, "path", "(III)I"⟩
abbrev cX9_rootsAlong : ByteArray := prog_11_method_49_code
def yX9_rootsAlong : MethodName := ⟨RX9, "rootsAlong", "(II)I"⟩
abbrev cX9_longest : ByteArray := prog_11_method_50_code
def yX9_longest : MethodName := ⟨RX9, "longest", "(I)I"⟩
abbrev cX9_laysParts : ByteArray := prog_11_method_51_code
def yX9_laysParts : MethodName := ⟨RX9, "laysParts", "(I)V"⟩
abbrev cX9_joinsOf : ByteArray := prog_11_method_52_code
def yX9_joinsOf : MethodName := ⟨RX9, "joinsOf", "(I)I"⟩
abbrev cX9_laysZoom : ByteArray := prog_11_method_53_code
def yX9_laysZoom : MethodName := ⟨RX9, "laysZoom", "(I)V"⟩
abbrev cX9_isFirst : ByteArray := prog_11_method_54_code
def yX9_isFirst : MethodName := ⟨RX9, "isFirst", "(I)Z"⟩
abbrev cX9_partsNow : ByteArray := prog_11_method_55_code
def yX9_partsNow : MethodName := ⟨RX9, "partsNow", "()I"⟩
abbrev cX9_groupSet : ByteArray := prog_11_method_56_code
def yX9_groupSet : MethodName := ⟨RX9, "groupSet", "(II)I"⟩
abbrev cX9_numberOf : ByteArray := prog_11_method_57_code
def yX9_numberOf : MethodName := ⟨RX9, "numberOf", "(I)I"⟩
abbrev cX9_zoom : ByteArray := prog_11_method_58_code
def yX9_zoom : MethodName := ⟨RX9, "zoom", "(II)I"⟩
abbrev cX9_groups : ByteArray := prog_11_method_59_code
def yX9_groups : MethodName := ⟨RX9, "groups", "(I)I"⟩
abbrev cX9_groupOf : ByteArray := prog_11_method_60_code
def yX9_groupOf : MethodName := ⟨RX9, "groupOf", "(II)I"⟩
abbrev cX9_centre : ByteArray := prog_11_method_61_code
def yX9_centre : MethodName := ⟨RX9, "centre", "(IZ)I"⟩
abbrev cX9_bound : ByteArray := prog_11_method_62_code
def yX9_bound : MethodName := ⟨RX9, "bound", "(IZZ)I"⟩
abbrev cX9_topOf : ByteArray := prog_11_method_63_code
def yX9_topOf : MethodName := ⟨RX9, "topOf", "(I)I"⟩
abbrev cX9_makerOf : ByteArray := prog_11_method_64_code
def yX9_makerOf : MethodName := ⟨RX9, "makerOf", "(I)I"⟩
abbrev cX9_widest : ByteArray := prog_11_method_65_code
def yX9_widest : MethodName := ⟨RX9, "widest", "(I)I"⟩
abbrev cX9_splitsInto : ByteArray := prog_11_method_66_code
def yX9_splitsInto : MethodName := ⟨RX9, "splitsInto", "(II)I"⟩
abbrev cX9_group : ByteArray := prog_11_method_67_code
def yX9_group : MethodName := ⟨RX9, "group", "(III)I"⟩
abbrev cX9_member : ByteArray := prog_11_method_68_code
def yX9_member : MethodName := ⟨RX9, "member", "(III)I"⟩
abbrev cX9_splits : ByteArray := prog_11_method_69_code
def yX9_splits : MethodName := ⟨RX9, "splits", "(III)I"⟩
abbrev cX9_isWithin : ByteArray := prog_11_method_70_code
def yX9_isWithin : MethodName := ⟨RX9, "isWithin", "(IIIIII)Z"⟩
abbrev cX9_isCentred : ByteArray := prog_11_method_71_code
def yX9_isCentred : MethodName := ⟨RX9, "isCentred", "(IIIII)Z"⟩
abbrev cX9_pointsIn : ByteArray := prog_11_method_72_code
def yX9_pointsIn : MethodName := ⟨RX9, "pointsIn", "(IIII)I"⟩
abbrev cX9_centredIn : ByteArray := prog_11_method_73_code
def yX9_centredIn : MethodName := ⟨RX9, "centredIn", "(IIIIZ)I"⟩
abbrev cX9_window : ByteArray := prog_11_method_74_code
def yX9_window : MethodName := ⟨RX9, "window", "(IIIIII)I"⟩
abbrev cX9_top : ByteArray := prog_11_method_75_code
def yX9_top : MethodName := ⟨RX9, "top", "(IIIIII)I"⟩
abbrev cX9_tileSet : ByteArray := prog_11_method_76_code
def yX9_tileSet : MethodName := ⟨RX9, "tileSet", "(III)I"⟩
abbrev cX9_filled : ByteArray := prog_11_method_77_code
def yX9_filled : MethodName := ⟨RX9, "filled", "(II)I"⟩
abbrev cX9_densest : ByteArray := prog_11_method_78_code
def yX9_densest : MethodName := ⟨RX9, "densest", "(II)I"⟩
abbrev cX9_tiles : ByteArray := prog_11_method_79_code
def yX9_tiles : MethodName := ⟨RX9, "tiles", "(IIII)I"⟩
abbrev cX9_cover : ByteArray := prog_11_method_80_code
def yX9_cover : MethodName := ⟨RX9, "cover", "(II)I"⟩
abbrev cX9_tile : ByteArray := prog_11_method_81_code
def yX9_tile : MethodName := ⟨RX9, "tile", "(IIII)I"⟩
abbrev cX9_turn : ByteArray := prog_11_method_82_code
def yX9_turn : MethodName := ⟨RX9, "turn", "(III)I"⟩
abbrev cX9_nextCorner : ByteArray := prog_11_method_83_code
def yX9_nextCorner : MethodName := ⟨RX9, "nextCorner", "(II)I"⟩
abbrev cX9_laysOutline : ByteArray := prog_11_method_84_code
def yX9_laysOutline : MethodName := ⟨RX9, "laysOutline", "(I)V"⟩
abbrev cX9_outline : ByteArray := prog_11_method_85_code
def yX9_outline : MethodName := ⟨RX9, "outline", "(III)I"⟩
abbrev cX9_area : ByteArray := prog_11_method_86_code
def yX9_area : MethodName := ⟨RX9, "area", "(II)I"⟩
abbrev cX9_farther : ByteArray := prog_11_method_87_code
def yX9_farther : MethodName := ⟨RX9, "farther", "(II)I"⟩
abbrev cX9_drift : ByteArray := prog_11_method_88_code
def yX9_drift : MethodName := ⟨RX9, "drift", "(I)I"⟩
abbrev cX9_part : ByteArray := prog_11_method_89_code
def yX9_part : MethodName := ⟨RX9, "part", "(II)I"⟩
abbrev cX9_clearest : ByteArray := prog_11_method_90_code
def yX9_clearest : MethodName := ⟨RX9, "clearest", "()I"⟩
abbrev cX9_bestOf : ByteArray := prog_11_method_91_code
def yX9_bestOf : MethodName := ⟨RX9, "bestOf", "(I)I"⟩
abbrev cX9_setOfNode : ByteArray := prog_11_method_92_code
def yX9_setOfNode : MethodName := ⟨RX9, "setOfNode", "(I)I"⟩
abbrev cX9_takesBest : ByteArray := prog_11_method_93_code
def yX9_takesBest : MethodName := ⟨RX9, "takesBest", "(I)V"⟩
abbrev cX9_best : ByteArray := prog_11_method_94_code
def yX9_best : MethodName := ⟨RX9, "best", "(I)I"⟩
abbrev cX9_laysLabels : ByteArray := prog_11_method_95_code
def yX9_laysLabels : MethodName := ⟨RX9, "laysLabels", "(I)V"⟩
abbrev cX9_countedBy : ByteArray := prog_11_method_96_code
def yX9_countedBy : MethodName := ⟨RX9, "countedBy", "(I)I"⟩
abbrev cX9_shown : ByteArray := prog_11_method_97_code
def yX9_shown : MethodName := ⟨RX9, "shown", "(I)I"⟩
abbrev cX9_label : ByteArray := prog_11_method_98_code
def yX9_label : MethodName := ⟨RX9, "label", "(III)I"⟩
abbrev cX9_counted : ByteArray := prog_11_method_99_code
def yX9_counted : MethodName := ⟨RX9, "counted", "(II)I"⟩
abbrev cX9_goneOnes : ByteArray := prog_11_method_100_code
def yX9_goneOnes : MethodName := ⟨RX9, "goneOnes", "(Z)I"⟩
abbrev cX9_asTheyWere : ByteArray := prog_11_method_101_code
def yX9_asTheyWere : MethodName := ⟨RX9, "asTheyWere", "()I"⟩
abbrev cX9_repaired : ByteArray := prog_11_method_102_code
def yX9_repaired : MethodName := ⟨RX9, "repaired", "(I)I"⟩
abbrev cX9_allApart : ByteArray := prog_11_method_103_code
def yX9_allApart : MethodName := ⟨RX9, "allApart", "()I"⟩
abbrev cX9_would : ByteArray := prog_11_method_104_code
def yX9_would : MethodName := ⟨RX9, "would", "(III)I"⟩
abbrev cX9_laysWas : ByteArray := prog_11_method_105_code
def yX9_laysWas : MethodName := ⟨RX9, "laysWas", "(I)V"⟩
abbrev cX9_nowAt : ByteArray := prog_11_method_106_code
def yX9_nowAt : MethodName := ⟨RX9, "nowAt", "(I)I"⟩
abbrev cX9_stirred : ByteArray := prog_11_method_107_code
def yX9_stirred : MethodName := ⟨RX9, "stirred", "(I)I"⟩
abbrev cX9_rootsOfAll : ByteArray := prog_11_method_108_code
def yX9_rootsOfAll : MethodName := ⟨RX9, "rootsOfAll", "()I"⟩
abbrev cX9_mostLinks : ByteArray := prog_11_method_109_code
def yX9_mostLinks : MethodName := ⟨RX9, "mostLinks", "()I"⟩
abbrev cX9_groupsOfAll : ByteArray := prog_11_method_110_code
def yX9_groupsOfAll : MethodName := ⟨RX9, "groupsOfAll", "()I"⟩
abbrev cX9_look : ByteArray := prog_11_method_111_code
def yX9_look : MethodName := ⟨RX9, "look", "(I)I"⟩
def RJ6 : String := "java/lang/Integer"
def TJ6 : u_T := fun k => match k with
  | _ => ("", "", "", false)
def tyJ6 : Nat → FieldType := fun k => match k with
  | _ => .int
abbrev wsJ60 : List Cond := u_ws RJ6 TJ6 0
theorem nmJ6 : ∀ a, a < 0 → ∀ b, b < 0 → a ≠ b → (TJ6 a).2.1 ≠ (TJ6 b).2.1 := by decide +kernel
theorem tyJ6_ok : ∀ k, k < 0 → parseFieldDescriptor (TJ6 k).2.2.1 = some (tyJ6 k) := by decide +kernel
abbrev cJ6_bitCount_0f7a4 : ByteArray := prog_12_method_49_code
def yJ6_bitCount_0f7a4 : MethodName := ⟨RJ6, "bitCount", "(I)I"⟩
def RJ9 : String := "java/lang/Math"
def TJ9 : u_T := fun k => match k with
  | _ => ("", "", "", false)
def tyJ9 : Nat → FieldType := fun k => match k with
  | _ => .int
abbrev wsJ90 : List Cond := u_ws RJ9 TJ9 0
theorem nmJ9 : ∀ a, a < 0 → ∀ b, b < 0 → a ≠ b → (TJ9 a).2.1 ≠ (TJ9 b).2.1 := by decide +kernel
theorem tyJ9_ok : ∀ k, k < 0 → parseFieldDescriptor (TJ9 k).2.2.1 = some (tyJ9 k) := by decide +kernel
abbrev cJ9_abs_0f7a4 : ByteArray := prog_13_method_59_code
def yJ9_abs_0f7a4 : MethodName := ⟨RJ9, "abs", "(I)I"⟩
abbrev cJ9_max_7cf53 : ByteArray := prog_13_method_65_code
def yJ9_max_7cf53 : MethodName := ⟨RJ9, "max", "(II)I"⟩
abbrev cJ9_min_7cf53 : ByteArray := prog_13_method_69_code
def yJ9_min_7cf53 : MethodName := ⟨RJ9, "min", "(II)I"⟩
abbrev cJ9_min_f86c9 : ByteArray := prog_13_method_70_code
def yJ9_min_f86c9 : MethodName := ⟨RJ9, "min", "(JJ)J"⟩
def RL : String := "ScaleGroupsLaw"
abbrev cL_law : ByteArray := code
def yL_law : MethodName := ⟨RL, "law", "([I)Z"⟩
def wsX0_init : List Cond := .code yX0_init cX0_init 1 none :: ([.methodLink RX0 3 objectInit, .instanceMethod objectInit, .code objectInit ⟨#[0xb1]⟩ 1 none, .fieldLink RX0 9 "ScaleGroups$Labels" "count" "I", .arrayClass .int, .fieldLink RX0 15 "ScaleGroups$Labels" "visible" "[I", .fieldLink RX0 19 "ScaleGroups$Labels" "holders" "[I"] ++ wsX00)
def wsX6_first : List Cond := .code yX6_first cX6_first 1 (some .int) :: ([])
def wsX6_has : List Cond := .code yX6_has cX6_has 2 (some .boolean) :: ([])
def wsX5_countAhead : List Cond := .code yX5_countAhead cX5_countAhead 6 (some .int) :: ([.fieldLink RX5 9 "ScaleGroups$Scale" "count" "I", .fieldLink RX5 19 "ScaleGroups$Scale" "weights" "[I", .methodLink RX5 44 yX6_has, .static yX6_has, .initialized RX6, .code yX6_has cX6_has 2 (some .boolean)] ++ wsX50)
def wsX5_heaviest : List Cond := .code yX5_heaviest cX5_heaviest 4 (some .int) :: ([.fieldLink RX5 9 "ScaleGroups$Scale" "count" "I", .methodLink RX5 44 yX6_has, .static yX6_has, .initialized RX6, .code yX6_has cX6_has 2 (some .boolean), .methodLink RX5 63 yX5_countAhead, .instanceMethod yX5_countAhead, .selects RX5 yX5_countAhead yX5_countAhead, .initialized RX5, .code yX5_countAhead cX5_countAhead 6 (some .int), .fieldLink RX5 19 "ScaleGroups$Scale" "weights" "[I"] ++ wsX50)
def wsX6_farther : List Cond := .code yX6_farther cX6_farther 2 (some .int) :: ([.methodLink RX6 27 Lib.Math.abs.name, .static Lib.Math.abs.name, .initialized "java/lang/Math", .code Lib.Math.abs.name Lib.Math.abs.code 1 (some .int), .methodLink RX6 24 Lib.Math.max.name, .static Lib.Math.max.name, .code Lib.Math.max.name Lib.Math.max.code 2 (some .int)])
def wsX5_gap : List Cond := .code yX5_gap cX5_gap 3 (some .int) :: ([.fieldLink RX5 22 "ScaleGroups$Scale" "xs" "[I", .fieldLink RX5 25 "ScaleGroups$Scale" "ys" "[I", .methodLink RX5 66 yX6_farther, .static yX6_farther, .initialized RX6, .code yX6_farther cX6_farther 2 (some .int), .methodLink RX6 27 Lib.Math.abs.name, .static Lib.Math.abs.name, .initialized "java/lang/Math", .code Lib.Math.abs.name Lib.Math.abs.code 1 (some .int), .methodLink RX6 24 Lib.Math.max.name, .static Lib.Math.max.name, .code Lib.Math.max.name Lib.Math.max.code 2 (some .int)] ++ wsX50)
def wsX0_nearestTo : List Cond := .code yX0_nearestTo cX0_nearestTo 7 (some .int) :: ([.fieldLink RX0 9 "ScaleGroups$Labels" "count" "I", .fieldLink RX0 15 "ScaleGroups$Labels" "visible" "[I", .methodLink RX0 43 yX5_gap, .instanceMethod yX5_gap, .selects RX5 yX5_gap yX5_gap, .initialized RX5, .code yX5_gap cX5_gap 3 (some .int), .fieldLink RX5 22 "ScaleGroups$Scale" "xs" "[I", .fieldLink RX5 25 "ScaleGroups$Scale" "ys" "[I", .methodLink RX5 66 yX6_farther, .static yX6_farther, .initialized RX6, .code yX6_farther cX6_farther 2 (some .int), .methodLink RX6 27 Lib.Math.abs.name, .static Lib.Math.abs.name, .initialized "java/lang/Math", .code Lib.Math.abs.name Lib.Math.abs.code 1 (some .int), .methodLink RX6 24 Lib.Math.max.name, .static Lib.Math.max.name, .code Lib.Math.max.name Lib.Math.max.code 2 (some .int)] ++ wsX00 ++ wsX50)
def wsX0_isClear_r1 : List Cond := [Cond.fieldLink RX0 15 "ScaleGroups$Labels" "visible" "[I", Cond.methodLink RX0 39 yX0_nearestTo, Cond.instanceMethod yX0_nearestTo, Cond.selects RX0 yX0_nearestTo yX0_nearestTo, Cond.initialized RX0, Cond.code yX0_nearestTo cX0_nearestTo 7 (some .int), Cond.fieldLink RX0 9 "ScaleGroups$Labels" "count" "I", Cond.methodLink RX0 43 yX5_gap, Cond.instanceMethod yX5_gap, Cond.selects RX5 yX5_gap yX5_gap, Cond.initialized RX5, Cond.code yX5_gap cX5_gap 3 (some .int), Cond.fieldLink RX5 22 "ScaleGroups$Scale" "xs" "[I", Cond.fieldLink RX5 25 "ScaleGroups$Scale" "ys" "[I", Cond.methodLink RX5 66 yX6_farther, Cond.static yX6_farther, Cond.initialized RX6, Cond.code yX6_farther cX6_farther 2 (some .int), Cond.methodLink RX6 27 Lib.Math.abs.name, Cond.static Lib.Math.abs.name, Cond.initialized "java/lang/Math", Cond.code Lib.Math.abs.name Lib.Math.abs.code 1 (some .int), Cond.methodLink RX6 24 Lib.Math.max.name, Cond.static Lib.Math.max.name]
def wsX0_isClear_r2 : List Cond := [Cond.code Lib.Math.max.name Lib.Math.max.code 2 (some .int)]
def wsX0_isClear : List Cond := .code yX0_isClear cX0_isClear 5 (some .boolean) :: ((wsX0_isClear_r1 ++ wsX0_isClear_r2) ++ wsX00 ++ wsX50)
def wsX0_lay_r1 : List Cond := [Cond.fieldLink RX0 22 "ScaleGroups$Scale" "count" "I", Cond.fieldLink RX0 9 "ScaleGroups$Labels" "count" "I", Cond.fieldLink RX0 15 "ScaleGroups$Labels" "visible" "[I", Cond.fieldLink RX0 19 "ScaleGroups$Labels" "holders" "[I", Cond.methodLink RX0 25 yX6_first, Cond.static yX6_first, Cond.initialized RX6, Cond.code yX6_first cX6_first 1 (some .int), Cond.methodLink RX0 31 yX5_heaviest, Cond.instanceMethod yX5_heaviest, Cond.selects RX5 yX5_heaviest yX5_heaviest, Cond.initialized RX5, Cond.code yX5_heaviest cX5_heaviest 4 (some .int), Cond.fieldLink RX5 9 "ScaleGroups$Scale" "count" "I", Cond.methodLink RX5 44 yX6_has, Cond.static yX6_has, Cond.code yX6_has cX6_has 2 (some .boolean), Cond.methodLink RX5 63 yX5_countAhead, Cond.instanceMethod yX5_countAhead, Cond.selects RX5 yX5_countAhead yX5_countAhead, Cond.code yX5_countAhead cX5_countAhead 6 (some .int), Cond.fieldLink RX5 19 "ScaleGroups$Scale" "weights" "[I", Cond.methodLink RX0 35 yX0_isClear, Cond.instanceMethod yX0_isClear]
def wsX0_lay_r2 : List Cond := [Cond.selects RX0 yX0_isClear yX0_isClear, Cond.initialized RX0, Cond.code yX0_isClear cX0_isClear 5 (some .boolean), Cond.methodLink RX0 39 yX0_nearestTo, Cond.instanceMethod yX0_nearestTo, Cond.selects RX0 yX0_nearestTo yX0_nearestTo, Cond.code yX0_nearestTo cX0_nearestTo 7 (some .int), Cond.methodLink RX0 43 yX5_gap, Cond.instanceMethod yX5_gap, Cond.selects RX5 yX5_gap yX5_gap, Cond.code yX5_gap cX5_gap 3 (some .int), Cond.fieldLink RX5 22 "ScaleGroups$Scale" "xs" "[I", Cond.fieldLink RX5 25 "ScaleGroups$Scale" "ys" "[I", Cond.methodLink RX5 66 yX6_farther, Cond.static yX6_farther, Cond.code yX6_farther cX6_farther 2 (some .int), Cond.methodLink RX6 27 Lib.Math.abs.name, Cond.static Lib.Math.abs.name, Cond.initialized "java/lang/Math", Cond.code Lib.Math.abs.name Lib.Math.abs.code 1 (some .int), Cond.methodLink RX6 24 Lib.Math.max.name, Cond.static Lib.Math.max.name, Cond.code Lib.Math.max.name Lib.Math.max.code 2 (some .int)]
def wsX0_lay : List Cond := .code yX0_lay cX0_lay 6 none :: ((wsX0_lay_r1 ++ wsX0_lay_r2) ++ wsX50 ++ wsX00)
def wsX0_countedWith : List Cond := .code yX0_countedWith cX0_countedWith 5 (some .int) :: ([.fieldLink RX0 19 "ScaleGroups$Labels" "holders" "[I"] ++ wsX00)
def wsX1_init : List Cond := .code yX1_init cX1_init 1 none :: ([.methodLink RX1 3 objectInit, .instanceMethod objectInit, .code objectInit ⟨#[0xb1]⟩ 1 none, .fieldLink RX1 9 "ScaleGroups$Lasting" "total" "I", .fieldLink RX1 15 "ScaleGroups$Lasting" "count" "I", .arrayClass .int, .fieldLink RX1 18 "ScaleGroups$Lasting" "totals" "[I", .arrayClass .boolean, .fieldLink RX1 22 "ScaleGroups$Lasting" "open" "[Z", .fieldLink RX1 26 "ScaleGroups$Lasting" "nodesByLeast" "[I"] ++ wsX10)
def wsX2_joinOf : List Cond := .code yX2_joinOf cX2_joinOf 1 (some .int) :: ([])
def wsX4_weightOf : List Cond := .code yX4_weightOf cX4_weightOf 4 (some .int) :: ([.fieldLink RX4 9 "ScaleGroups$Points" "count" "I", .fieldLink RX4 22 "ScaleGroups$Points" "ws" "[I", .methodLink RX4 44 yX6_has, .static yX6_has, .initialized RX6, .code yX6_has cX6_has 2 (some .boolean)] ++ wsX40)
def wsX2_weightTill : List Cond := .code yX2_weightTill cX2_weightTill 4 (some .int) :: ([.fieldLink RX2 18 "ScaleGroups$Order" "count" "I", .fieldLink RX2 12 "ScaleGroups$Order" "points" "LScaleGroups$Points;", .fieldLink RX2 30 "ScaleGroups$Order" "roots" "[I", .methodLink RX2 133 yX4_weightOf, .instanceMethod yX4_weightOf, .selects RX4 yX4_weightOf yX4_weightOf, .initialized RX4, .code yX4_weightOf cX4_weightOf 4 (some .int), .fieldLink RX4 9 "ScaleGroups$Points" "count" "I", .fieldLink RX4 22 "ScaleGroups$Points" "ws" "[I", .methodLink RX4 44 yX6_has, .static yX6_has, .initialized RX6, .code yX6_has cX6_has 2 (some .boolean)] ++ wsX20 ++ wsX40)
def wsX2_lastsOf_r1 : List Cond := [Cond.fieldLink RX2 39 "ScaleGroups$Order" "parts" "[I", Cond.fieldLink RX2 30 "ScaleGroups$Order" "roots" "[I", Cond.fieldLink RX2 48 "ScaleGroups$Order" "joinsAbove" "[I", Cond.fieldLink RX2 51 "ScaleGroups$Order" "pointsAbove" "[I", Cond.methodLink RX2 126 yX2_joinOf, Cond.static yX2_joinOf, Cond.initialized RX2, Cond.code yX2_joinOf cX2_joinOf 1 (some .int), Cond.methodLink RX2 129 yX2_weightTill, Cond.instanceMethod yX2_weightTill, Cond.selects RX2 yX2_weightTill yX2_weightTill, Cond.code yX2_weightTill cX2_weightTill 4 (some .int), Cond.fieldLink RX2 18 "ScaleGroups$Order" "count" "I", Cond.fieldLink RX2 12 "ScaleGroups$Order" "points" "LScaleGroups$Points;", Cond.methodLink RX2 133 yX4_weightOf, Cond.instanceMethod yX4_weightOf, Cond.selects RX4 yX4_weightOf yX4_weightOf, Cond.initialized RX4, Cond.code yX4_weightOf cX4_weightOf 4 (some .int), Cond.fieldLink RX4 9 "ScaleGroups$Points" "count" "I", Cond.fieldLink RX4 22 "ScaleGroups$Points" "ws" "[I", Cond.methodLink RX4 44 yX6_has, Cond.static yX6_has, Cond.initialized RX6]
def wsX2_lastsOf_r2 : List Cond := [Cond.code yX6_has cX6_has 2 (some .boolean)]
def wsX2_lastsOf : List Cond := .code yX2_lastsOf cX2_lastsOf 3 (some .int) :: ((wsX2_lastsOf_r1 ++ wsX2_lastsOf_r2) ++ wsX20 ++ wsX40)
def wsX1_totalOf_r1 : List Cond := [Cond.fieldLink RX1 18 "ScaleGroups$Lasting" "totals" "[I", Cond.methodLink RX1 70 yX2_joinOf, Cond.static yX2_joinOf, Cond.initialized RX2, Cond.code yX2_joinOf cX2_joinOf 1 (some .int), Cond.methodLink RX1 39 yX2_lastsOf, Cond.instanceMethod yX2_lastsOf, Cond.selects RX2 yX2_lastsOf yX2_lastsOf, Cond.code yX2_lastsOf cX2_lastsOf 3 (some .int), Cond.fieldLink RX2 39 "ScaleGroups$Order" "parts" "[I", Cond.fieldLink RX2 30 "ScaleGroups$Order" "roots" "[I", Cond.fieldLink RX2 48 "ScaleGroups$Order" "joinsAbove" "[I", Cond.fieldLink RX2 51 "ScaleGroups$Order" "pointsAbove" "[I", Cond.methodLink RX2 126 yX2_joinOf, Cond.methodLink RX2 129 yX2_weightTill, Cond.instanceMethod yX2_weightTill, Cond.selects RX2 yX2_weightTill yX2_weightTill, Cond.code yX2_weightTill cX2_weightTill 4 (some .int), Cond.fieldLink RX2 18 "ScaleGroups$Order" "count" "I", Cond.fieldLink RX2 12 "ScaleGroups$Order" "points" "LScaleGroups$Points;", Cond.methodLink RX2 133 yX4_weightOf, Cond.instanceMethod yX4_weightOf, Cond.selects RX4 yX4_weightOf yX4_weightOf, Cond.initialized RX4]
def wsX1_totalOf_r2 : List Cond := [Cond.code yX4_weightOf cX4_weightOf 4 (some .int), Cond.fieldLink RX4 9 "ScaleGroups$Points" "count" "I", Cond.fieldLink RX4 22 "ScaleGroups$Points" "ws" "[I", Cond.methodLink RX4 44 yX6_has, Cond.static yX6_has, Cond.initialized RX6, Cond.code yX6_has cX6_has 2 (some .boolean)]
def wsX1_totalOf : List Cond := .code yX1_totalOf cX1_totalOf 4 (some .int) :: ((wsX1_totalOf_r1 ++ wsX1_totalOf_r2) ++ wsX10 ++ wsX20 ++ wsX40)
def wsX1_sidesTotal_r1 : List Cond := [Cond.fieldLink RX1 61 "ScaleGroups$Order" "firstSides" "[I", Cond.fieldLink RX1 67 "ScaleGroups$Order" "otherSides" "[I", Cond.methodLink RX1 64 yX1_totalOf, Cond.instanceMethod yX1_totalOf, Cond.selects RX1 yX1_totalOf yX1_totalOf, Cond.initialized RX1, Cond.code yX1_totalOf cX1_totalOf 4 (some .int), Cond.fieldLink RX1 18 "ScaleGroups$Lasting" "totals" "[I", Cond.methodLink RX1 70 yX2_joinOf, Cond.static yX2_joinOf, Cond.initialized RX2, Cond.code yX2_joinOf cX2_joinOf 1 (some .int), Cond.methodLink RX1 39 yX2_lastsOf, Cond.instanceMethod yX2_lastsOf, Cond.selects RX2 yX2_lastsOf yX2_lastsOf, Cond.code yX2_lastsOf cX2_lastsOf 3 (some .int), Cond.fieldLink RX2 39 "ScaleGroups$Order" "parts" "[I", Cond.fieldLink RX2 30 "ScaleGroups$Order" "roots" "[I", Cond.fieldLink RX2 48 "ScaleGroups$Order" "joinsAbove" "[I", Cond.fieldLink RX2 51 "ScaleGroups$Order" "pointsAbove" "[I", Cond.methodLink RX2 126 yX2_joinOf, Cond.methodLink RX2 129 yX2_weightTill, Cond.instanceMethod yX2_weightTill, Cond.selects RX2 yX2_weightTill yX2_weightTill]
def wsX1_sidesTotal_r2 : List Cond := [Cond.code yX2_weightTill cX2_weightTill 4 (some .int), Cond.fieldLink RX2 18 "ScaleGroups$Order" "count" "I", Cond.fieldLink RX2 12 "ScaleGroups$Order" "points" "LScaleGroups$Points;", Cond.methodLink RX2 133 yX4_weightOf, Cond.instanceMethod yX4_weightOf, Cond.selects RX4 yX4_weightOf yX4_weightOf, Cond.initialized RX4, Cond.code yX4_weightOf cX4_weightOf 4 (some .int), Cond.fieldLink RX4 9 "ScaleGroups$Points" "count" "I", Cond.fieldLink RX4 22 "ScaleGroups$Points" "ws" "[I", Cond.methodLink RX4 44 yX6_has, Cond.static yX6_has, Cond.initialized RX6, Cond.code yX6_has cX6_has 2 (some .boolean)]
def wsX1_sidesTotal : List Cond := .code yX1_sidesTotal cX1_sidesTotal 3 (some .int) :: ((wsX1_sidesTotal_r1 ++ wsX1_sidesTotal_r2) ++ wsX20 ++ wsX10 ++ wsX40)
def wsX2_setOf : List Cond := .code yX2_setOf cX2_setOf 3 (some .int) :: ([.fieldLink RX2 39 "ScaleGroups$Order" "parts" "[I", .methodLink RX2 126 yX2_joinOf, .static yX2_joinOf, .initialized RX2, .code yX2_joinOf cX2_joinOf 1 (some .int)] ++ wsX20)
def wsX6_nth : List Cond := .code yX6_nth cX6_nth 4 (some .int) :: ([.methodLink RX6 15 yX6_has, .static yX6_has, .initialized RX6, .code yX6_has cX6_has 2 (some .boolean)])
def wsX6_least : List Cond := .code yX6_least cX6_least 1 (some .int) :: ([.methodLink RX6 9 yX6_nth, .static yX6_nth, .initialized RX6, .code yX6_nth cX6_nth 4 (some .int), .methodLink RX6 15 yX6_has, .static yX6_has, .code yX6_has cX6_has 2 (some .boolean)])
def wsX1_put : List Cond := .code yX1_put cX1_put 4 none :: ([.fieldLink RX1 26 "ScaleGroups$Lasting" "nodesByLeast" "[I", .fieldLink RX1 15 "ScaleGroups$Lasting" "count" "I", .methodLink RX1 76 yX2_setOf, .instanceMethod yX2_setOf, .selects RX2 yX2_setOf yX2_setOf, .initialized RX2, .code yX2_setOf cX2_setOf 3 (some .int), .fieldLink RX2 39 "ScaleGroups$Order" "parts" "[I", .methodLink RX2 126 yX2_joinOf, .static yX2_joinOf, .code yX2_joinOf cX2_joinOf 1 (some .int), .methodLink RX1 79 yX6_least, .static yX6_least, .initialized RX6, .code yX6_least cX6_least 1 (some .int), .methodLink RX6 9 yX6_nth, .static yX6_nth, .code yX6_nth cX6_nth 4 (some .int), .methodLink RX6 15 yX6_has, .static yX6_has, .code yX6_has cX6_has 2 (some .boolean)] ++ wsX10 ++ wsX20)
def wsX1_openNode_r1 : List Cond := [Cond.fieldLink RX1 22 "ScaleGroups$Lasting" "open" "[Z", Cond.methodLink RX1 70 yX2_joinOf, Cond.static yX2_joinOf, Cond.initialized RX2, Cond.code yX2_joinOf cX2_joinOf 1 (some .int), Cond.methodLink RX1 57 yX1_put, Cond.instanceMethod yX1_put, Cond.selects RX1 yX1_put yX1_put, Cond.initialized RX1, Cond.code yX1_put cX1_put 4 none, Cond.fieldLink RX1 26 "ScaleGroups$Lasting" "nodesByLeast" "[I", Cond.fieldLink RX1 15 "ScaleGroups$Lasting" "count" "I", Cond.methodLink RX1 76 yX2_setOf, Cond.instanceMethod yX2_setOf, Cond.selects RX2 yX2_setOf yX2_setOf, Cond.code yX2_setOf cX2_setOf 3 (some .int), Cond.fieldLink RX2 39 "ScaleGroups$Order" "parts" "[I", Cond.methodLink RX2 126 yX2_joinOf, Cond.methodLink RX1 79 yX6_least, Cond.static yX6_least, Cond.initialized RX6, Cond.code yX6_least cX6_least 1 (some .int), Cond.methodLink RX6 9 yX6_nth, Cond.static yX6_nth]
def wsX1_openNode_r2 : List Cond := [Cond.code yX6_nth cX6_nth 4 (some .int), Cond.methodLink RX6 15 yX6_has, Cond.static yX6_has, Cond.code yX6_has cX6_has 2 (some .boolean)]
def wsX1_openNode : List Cond := .code yX1_openNode cX1_openNode 4 none :: ((wsX1_openNode_r1 ++ wsX1_openNode_r2) ++ wsX10 ++ wsX20)
def wsX1_chooseJoins_r1 : List Cond := [Cond.fieldLink RX1 38 "ScaleGroups$Order" "count" "I", Cond.fieldLink RX1 22 "ScaleGroups$Lasting" "open" "[Z", Cond.fieldLink RX1 61 "ScaleGroups$Order" "firstSides" "[I", Cond.fieldLink RX1 67 "ScaleGroups$Order" "otherSides" "[I", Cond.methodLink RX1 39 yX2_lastsOf, Cond.instanceMethod yX2_lastsOf, Cond.selects RX2 yX2_lastsOf yX2_lastsOf, Cond.initialized RX2, Cond.code yX2_lastsOf cX2_lastsOf 3 (some .int), Cond.fieldLink RX2 39 "ScaleGroups$Order" "parts" "[I", Cond.fieldLink RX2 30 "ScaleGroups$Order" "roots" "[I", Cond.fieldLink RX2 48 "ScaleGroups$Order" "joinsAbove" "[I", Cond.fieldLink RX2 51 "ScaleGroups$Order" "pointsAbove" "[I", Cond.methodLink RX2 126 yX2_joinOf, Cond.static yX2_joinOf, Cond.code yX2_joinOf cX2_joinOf 1 (some .int), Cond.methodLink RX2 129 yX2_weightTill, Cond.instanceMethod yX2_weightTill, Cond.selects RX2 yX2_weightTill yX2_weightTill, Cond.code yX2_weightTill cX2_weightTill 4 (some .int), Cond.fieldLink RX2 18 "ScaleGroups$Order" "count" "I", Cond.fieldLink RX2 12 "ScaleGroups$Order" "points" "LScaleGroups$Points;", Cond.methodLink RX2 133 yX4_weightOf, Cond.instanceMethod yX4_weightOf]
def wsX1_chooseJoins_r2 : List Cond := [Cond.selects RX4 yX4_weightOf yX4_weightOf, Cond.initialized RX4, Cond.code yX4_weightOf cX4_weightOf 4 (some .int), Cond.fieldLink RX4 9 "ScaleGroups$Points" "count" "I", Cond.fieldLink RX4 22 "ScaleGroups$Points" "ws" "[I", Cond.methodLink RX4 44 yX6_has, Cond.static yX6_has, Cond.initialized RX6, Cond.code yX6_has cX6_has 2 (some .boolean), Cond.methodLink RX1 43 yX1_sidesTotal, Cond.instanceMethod yX1_sidesTotal, Cond.selects RX1 yX1_sidesTotal yX1_sidesTotal, Cond.initialized RX1, Cond.code yX1_sidesTotal cX1_sidesTotal 3 (some .int), Cond.methodLink RX1 64 yX1_totalOf, Cond.instanceMethod yX1_totalOf, Cond.selects RX1 yX1_totalOf yX1_totalOf, Cond.code yX1_totalOf cX1_totalOf 4 (some .int), Cond.fieldLink RX1 18 "ScaleGroups$Lasting" "totals" "[I", Cond.methodLink RX1 70 yX2_joinOf, Cond.methodLink RX1 57 yX1_put, Cond.instanceMethod yX1_put, Cond.selects RX1 yX1_put yX1_put, Cond.code yX1_put cX1_put 4 none]
def wsX1_chooseJoins_r3 : List Cond := [Cond.fieldLink RX1 26 "ScaleGroups$Lasting" "nodesByLeast" "[I", Cond.fieldLink RX1 15 "ScaleGroups$Lasting" "count" "I", Cond.methodLink RX1 76 yX2_setOf, Cond.instanceMethod yX2_setOf, Cond.selects RX2 yX2_setOf yX2_setOf, Cond.code yX2_setOf cX2_setOf 3 (some .int), Cond.methodLink RX1 79 yX6_least, Cond.static yX6_least, Cond.code yX6_least cX6_least 1 (some .int), Cond.methodLink RX6 9 yX6_nth, Cond.static yX6_nth, Cond.code yX6_nth cX6_nth 4 (some .int), Cond.methodLink RX6 15 yX6_has, Cond.methodLink RX1 73 yX1_openNode, Cond.instanceMethod yX1_openNode, Cond.selects RX1 yX1_openNode yX1_openNode, Cond.code yX1_openNode cX1_openNode 4 none]
def wsX1_chooseJoins : List Cond := .code yX1_chooseJoins cX1_chooseJoins 3 none :: ((wsX1_chooseJoins_r1 ++ (wsX1_chooseJoins_r2 ++ wsX1_chooseJoins_r3)) ++ wsX20 ++ wsX10 ++ wsX40)
def wsX1_choose_r1 : List Cond := [Cond.fieldLink RX1 9 "ScaleGroups$Lasting" "total" "I", Cond.fieldLink RX1 15 "ScaleGroups$Lasting" "count" "I", Cond.fieldLink RX1 29 "ScaleGroups$Order" "points" "LScaleGroups$Points;", Cond.fieldLink RX1 35 "ScaleGroups$Points" "count" "I", Cond.fieldLink RX1 26 "ScaleGroups$Lasting" "nodesByLeast" "[I", Cond.fieldLink RX1 38 "ScaleGroups$Order" "count" "I", Cond.fieldLink RX1 18 "ScaleGroups$Lasting" "totals" "[I", Cond.methodLink RX1 47 Lib.Math.max.name, Cond.static Lib.Math.max.name, Cond.initialized "java/lang/Math", Cond.code Lib.Math.max.name Lib.Math.max.code 2 (some .int), Cond.fieldLink RX1 22 "ScaleGroups$Lasting" "open" "[Z", Cond.methodLink RX1 39 yX2_lastsOf, Cond.instanceMethod yX2_lastsOf, Cond.selects RX2 yX2_lastsOf yX2_lastsOf, Cond.initialized RX2, Cond.code yX2_lastsOf cX2_lastsOf 3 (some .int), Cond.fieldLink RX2 39 "ScaleGroups$Order" "parts" "[I", Cond.fieldLink RX2 30 "ScaleGroups$Order" "roots" "[I", Cond.fieldLink RX2 48 "ScaleGroups$Order" "joinsAbove" "[I", Cond.fieldLink RX2 51 "ScaleGroups$Order" "pointsAbove" "[I", Cond.methodLink RX2 126 yX2_joinOf, Cond.static yX2_joinOf, Cond.code yX2_joinOf cX2_joinOf 1 (some .int)]
def wsX1_choose_r2 : List Cond := [Cond.methodLink RX2 129 yX2_weightTill, Cond.instanceMethod yX2_weightTill, Cond.selects RX2 yX2_weightTill yX2_weightTill, Cond.code yX2_weightTill cX2_weightTill 4 (some .int), Cond.fieldLink RX2 18 "ScaleGroups$Order" "count" "I", Cond.fieldLink RX2 12 "ScaleGroups$Order" "points" "LScaleGroups$Points;", Cond.methodLink RX2 133 yX4_weightOf, Cond.instanceMethod yX4_weightOf, Cond.selects RX4 yX4_weightOf yX4_weightOf, Cond.initialized RX4, Cond.code yX4_weightOf cX4_weightOf 4 (some .int), Cond.fieldLink RX4 9 "ScaleGroups$Points" "count" "I", Cond.fieldLink RX4 22 "ScaleGroups$Points" "ws" "[I", Cond.methodLink RX4 44 yX6_has, Cond.static yX6_has, Cond.initialized RX6, Cond.code yX6_has cX6_has 2 (some .boolean), Cond.methodLink RX1 43 yX1_sidesTotal, Cond.instanceMethod yX1_sidesTotal, Cond.selects RX1 yX1_sidesTotal yX1_sidesTotal, Cond.initialized RX1, Cond.code yX1_sidesTotal cX1_sidesTotal 3 (some .int), Cond.fieldLink RX1 61 "ScaleGroups$Order" "firstSides" "[I", Cond.fieldLink RX1 67 "ScaleGroups$Order" "otherSides" "[I"]
def wsX1_choose_r3 : List Cond := [Cond.methodLink RX1 64 yX1_totalOf, Cond.instanceMethod yX1_totalOf, Cond.selects RX1 yX1_totalOf yX1_totalOf, Cond.code yX1_totalOf cX1_totalOf 4 (some .int), Cond.methodLink RX1 70 yX2_joinOf, Cond.methodLink RX1 53 yX1_chooseJoins, Cond.instanceMethod yX1_chooseJoins, Cond.selects RX1 yX1_chooseJoins yX1_chooseJoins, Cond.code yX1_chooseJoins cX1_chooseJoins 3 none, Cond.methodLink RX1 57 yX1_put, Cond.instanceMethod yX1_put, Cond.selects RX1 yX1_put yX1_put, Cond.code yX1_put cX1_put 4 none, Cond.methodLink RX1 76 yX2_setOf, Cond.instanceMethod yX2_setOf, Cond.selects RX2 yX2_setOf yX2_setOf, Cond.code yX2_setOf cX2_setOf 3 (some .int), Cond.methodLink RX1 79 yX6_least, Cond.static yX6_least, Cond.code yX6_least cX6_least 1 (some .int), Cond.methodLink RX6 9 yX6_nth, Cond.static yX6_nth, Cond.code yX6_nth cX6_nth 4 (some .int), Cond.methodLink RX6 15 yX6_has]
def wsX1_choose_r4 : List Cond := [Cond.methodLink RX1 73 yX1_openNode, Cond.instanceMethod yX1_openNode, Cond.selects RX1 yX1_openNode yX1_openNode, Cond.code yX1_openNode cX1_openNode 4 none]
def wsX1_choose : List Cond := .code yX1_choose cX1_choose 3 none :: ((wsX1_choose_r1 ++ (wsX1_choose_r2 ++ (wsX1_choose_r3 ++ wsX1_choose_r4))) ++ wsX10 ++ wsX20 ++ wsX40)
def wsX1_nth : List Cond := .code yX1_nth cX1_nth 5 (some .int) :: ([.fieldLink RX1 26 "ScaleGroups$Lasting" "nodesByLeast" "[I"] ++ wsX10)
def wsX4_init : List Cond := .code yX4_init cX4_init 1 none :: ([.methodLink RX4 3 objectInit, .instanceMethod objectInit, .code objectInit ⟨#[0xb1]⟩ 1 none, .fieldLink RX4 9 "ScaleGroups$Points" "count" "I", .arrayClass .int, .fieldLink RX4 15 "ScaleGroups$Points" "xs" "[I", .fieldLink RX4 19 "ScaleGroups$Points" "ys" "[I", .fieldLink RX4 22 "ScaleGroups$Points" "ws" "[I"] ++ wsX40)
def wsX2_init_r1 : List Cond := [Cond.methodLink RX2 3 objectInit, Cond.instanceMethod objectInit, Cond.code objectInit ⟨#[0xb1]⟩ 1 none, Cond.classLink RX2 9 RX4, Cond.instantiable RX4 4, Cond.initialized RX4, Cond.fieldLink RX2 12 "ScaleGroups$Order" "points" "LScaleGroups$Points;", Cond.fieldLink RX2 18 "ScaleGroups$Order" "count" "I", Cond.arrayClass .long, Cond.fieldLink RX2 22 "ScaleGroups$Order" "keys" "[J", Cond.arrayClass .int, Cond.fieldLink RX2 26 "ScaleGroups$Order" "aparts" "[I", Cond.fieldLink RX2 30 "ScaleGroups$Order" "roots" "[I", Cond.fieldLink RX2 33 "ScaleGroups$Order" "firsts" "[I", Cond.fieldLink RX2 36 "ScaleGroups$Order" "seconds" "[I", Cond.fieldLink RX2 39 "ScaleGroups$Order" "parts" "[I", Cond.fieldLink RX2 42 "ScaleGroups$Order" "firstSides" "[I", Cond.fieldLink RX2 45 "ScaleGroups$Order" "otherSides" "[I", Cond.fieldLink RX2 48 "ScaleGroups$Order" "joinsAbove" "[I", Cond.fieldLink RX2 51 "ScaleGroups$Order" "pointsAbove" "[I", Cond.fieldLink RX2 54 "ScaleGroups$Order" "pairs" "[J", Cond.fieldLink RX2 57 "ScaleGroups$Order" "links" "[J", Cond.fieldLink RX2 60 "ScaleGroups$Order" "nodes" "[I", Cond.methodLink RX2 11 yX4_init]
def wsX2_init_r2 : List Cond := [Cond.instanceMethod yX4_init, Cond.code yX4_init cX4_init 1 none, Cond.methodLink RX4 3 objectInit, Cond.fieldLink RX4 9 "ScaleGroups$Points" "count" "I", Cond.fieldLink RX4 15 "ScaleGroups$Points" "xs" "[I", Cond.fieldLink RX4 19 "ScaleGroups$Points" "ys" "[I", Cond.fieldLink RX4 22 "ScaleGroups$Points" "ws" "[I"]
def wsX2_init : List Cond := .code yX2_init cX2_init 1 none :: ((wsX2_init_r1 ++ wsX2_init_r2) ++ wsX40 ++ wsX20)
def wsX4_squares : List Cond := .code yX4_squares cX4_squares 6 (some .int) :: ([.fieldLink RX4 15 "ScaleGroups$Points" "xs" "[I", .fieldLink RX4 19 "ScaleGroups$Points" "ys" "[I"] ++ wsX40)
def wsX4_apart : List Cond := .code yX4_apart cX4_apart 3 (some .int) :: ([.fieldLink RX4 15 "ScaleGroups$Points" "xs" "[I", .fieldLink RX4 19 "ScaleGroups$Points" "ys" "[I", .methodLink RX4 33 yX4_squares, .instanceMethod yX4_squares, .selects RX4 yX4_squares yX4_squares, .initialized RX4, .code yX4_squares cX4_squares 6 (some .int)] ++ wsX40)
def wsX2_keyOf : List Cond := .code yX2_keyOf cX2_keyOf 3 (some .long) :: ([.fieldLink RX2 12 "ScaleGroups$Order" "points" "LScaleGroups$Points;", .methodLink RX2 99 Lib.Math.min.name, .static Lib.Math.min.name, .initialized "java/lang/Math", .code Lib.Math.min.name Lib.Math.min.code 2 (some .int), .methodLink RX2 101 Lib.Math.max.name, .static Lib.Math.max.name, .code Lib.Math.max.name Lib.Math.max.code 2 (some .int), .methodLink RX2 95 yX4_apart, .instanceMethod yX4_apart, .selects RX4 yX4_apart yX4_apart, .initialized RX4, .code yX4_apart cX4_apart 3 (some .int), .fieldLink RX4 15 "ScaleGroups$Points" "xs" "[I", .fieldLink RX4 19 "ScaleGroups$Points" "ys" "[I", .methodLink RX4 33 yX4_squares, .instanceMethod yX4_squares, .selects RX4 yX4_squares yX4_squares, .code yX4_squares cX4_squares 6 (some .int)] ++ wsX20 ++ wsX40)
def wsX2_nextToGrow : List Cond := .code yX2_nextToGrow cX2_nextToGrow 4 (some .int) :: ([.fieldLink RX2 12 "ScaleGroups$Order" "points" "LScaleGroups$Points;", .fieldLink RX2 66 "ScaleGroups$Points" "count" "I", .fieldLink RX2 57 "ScaleGroups$Order" "links" "[J", .methodLink RX2 83 yX6_has, .static yX6_has, .initialized RX6, .code yX6_has cX6_has 2 (some .boolean)] ++ wsX20 ++ wsX40)
def wsX2_putKey : List Cond := .code yX2_putKey cX2_putKey 4 none :: ([.fieldLink RX2 18 "ScaleGroups$Order" "count" "I", .fieldLink RX2 22 "ScaleGroups$Order" "keys" "[J"] ++ wsX20)
def wsX2_growTree_r1 : List Cond := [Cond.fieldLink RX2 18 "ScaleGroups$Order" "count" "I", Cond.fieldLink RX2 12 "ScaleGroups$Order" "points" "LScaleGroups$Points;", Cond.fieldLink RX2 66 "ScaleGroups$Points" "count" "I", Cond.fieldLink RX2 57 "ScaleGroups$Order" "links" "[J", Cond.methodLink RX2 89 Lib.MathLoose.min_long.x, Cond.static Lib.MathLoose.min_long.x, Cond.initialized "java/lang/Math", Cond.code Lib.MathLoose.min_long.x Lib.MathLoose.min_long.code 4 (some .long), Cond.methodLink RX2 71 yX2_keyOf, Cond.instanceMethod yX2_keyOf, Cond.selects RX2 yX2_keyOf yX2_keyOf, Cond.initialized RX2, Cond.code yX2_keyOf cX2_keyOf 3 (some .long), Cond.methodLink RX2 99 Lib.Math.min.name, Cond.static Lib.Math.min.name, Cond.code Lib.Math.min.name Lib.Math.min.code 2 (some .int), Cond.methodLink RX2 101 Lib.Math.max.name, Cond.static Lib.Math.max.name, Cond.code Lib.Math.max.name Lib.Math.max.code 2 (some .int), Cond.methodLink RX2 95 yX4_apart, Cond.instanceMethod yX4_apart, Cond.selects RX4 yX4_apart yX4_apart, Cond.initialized RX4, Cond.code yX4_apart cX4_apart 3 (some .int)]
def wsX2_growTree_r2 : List Cond := [Cond.fieldLink RX4 15 "ScaleGroups$Points" "xs" "[I", Cond.fieldLink RX4 19 "ScaleGroups$Points" "ys" "[I", Cond.methodLink RX4 33 yX4_squares, Cond.instanceMethod yX4_squares, Cond.selects RX4 yX4_squares yX4_squares, Cond.code yX4_squares cX4_squares 6 (some .int), Cond.methodLink RX2 75 yX2_nextToGrow, Cond.instanceMethod yX2_nextToGrow, Cond.selects RX2 yX2_nextToGrow yX2_nextToGrow, Cond.code yX2_nextToGrow cX2_nextToGrow 4 (some .int), Cond.methodLink RX2 83 yX6_has, Cond.static yX6_has, Cond.initialized RX6, Cond.code yX6_has cX6_has 2 (some .boolean), Cond.methodLink RX2 79 yX2_putKey, Cond.instanceMethod yX2_putKey, Cond.selects RX2 yX2_putKey yX2_putKey, Cond.code yX2_putKey cX2_putKey 4 none, Cond.fieldLink RX2 22 "ScaleGroups$Order" "keys" "[J"]
def wsX2_growTree : List Cond := .code yX2_growTree cX2_growTree 5 none :: ((wsX2_growTree_r1 ++ wsX2_growTree_r2) ++ wsX20 ++ wsX40)
def wsX6_root : List Cond := .code yX6_root cX6_root 4 (some .int) :: ([])
def wsX2_placeOf : List Cond := .code yX2_placeOf cX2_placeOf 2 (some .long) :: ([.fieldLink RX2 12 "ScaleGroups$Order" "points" "LScaleGroups$Points;", .fieldLink RX2 120 "ScaleGroups$Points" "xs" "[I", .fieldLink RX2 123 "ScaleGroups$Points" "ys" "[I"] ++ wsX20 ++ wsX40)
def wsX2_putBelow : List Cond := .code yX2_putBelow cX2_putBelow 4 none :: ([.fieldLink RX2 48 "ScaleGroups$Order" "joinsAbove" "[I", .fieldLink RX2 51 "ScaleGroups$Order" "pointsAbove" "[I", .methodLink RX2 126 yX2_joinOf, .static yX2_joinOf, .initialized RX2, .code yX2_joinOf cX2_joinOf 1 (some .int)] ++ wsX20)
def wsX2_makeJoin_r1 : List Cond := [Cond.fieldLink RX2 22 "ScaleGroups$Order" "keys" "[J", Cond.constantLong RX2 104 (31), Cond.fieldLink RX2 12 "ScaleGroups$Order" "points" "LScaleGroups$Points;", Cond.fieldLink RX2 66 "ScaleGroups$Points" "count" "I", Cond.fieldLink RX2 26 "ScaleGroups$Order" "aparts" "[I", Cond.fieldLink RX2 30 "ScaleGroups$Order" "roots" "[I", Cond.fieldLink RX2 33 "ScaleGroups$Order" "firsts" "[I", Cond.fieldLink RX2 36 "ScaleGroups$Order" "seconds" "[I", Cond.fieldLink RX2 54 "ScaleGroups$Order" "pairs" "[J", Cond.fieldLink RX2 42 "ScaleGroups$Order" "firstSides" "[I", Cond.fieldLink RX2 60 "ScaleGroups$Order" "nodes" "[I", Cond.fieldLink RX2 45 "ScaleGroups$Order" "otherSides" "[I", Cond.fieldLink RX2 39 "ScaleGroups$Order" "parts" "[I", Cond.fieldLink RX2 48 "ScaleGroups$Order" "joinsAbove" "[I", Cond.methodLink RX2 106 yX6_root, Cond.static yX6_root, Cond.initialized RX6, Cond.code yX6_root cX6_root 4 (some .int), Cond.methodLink RX2 109 yX2_placeOf, Cond.instanceMethod yX2_placeOf, Cond.selects RX2 yX2_placeOf yX2_placeOf, Cond.initialized RX2, Cond.code yX2_placeOf cX2_placeOf 2 (some .long), Cond.fieldLink RX2 120 "ScaleGroups$Points" "xs" "[I"]
def wsX2_makeJoin_r2 : List Cond := [Cond.fieldLink RX2 123 "ScaleGroups$Points" "ys" "[I", Cond.methodLink RX2 113 yX2_setOf, Cond.instanceMethod yX2_setOf, Cond.selects RX2 yX2_setOf yX2_setOf, Cond.code yX2_setOf cX2_setOf 3 (some .int), Cond.methodLink RX2 126 yX2_joinOf, Cond.static yX2_joinOf, Cond.code yX2_joinOf cX2_joinOf 1 (some .int), Cond.methodLink RX2 116 yX2_putBelow, Cond.instanceMethod yX2_putBelow, Cond.selects RX2 yX2_putBelow yX2_putBelow, Cond.code yX2_putBelow cX2_putBelow 4 none, Cond.fieldLink RX2 51 "ScaleGroups$Order" "pointsAbove" "[I", Cond.methodLink RX2 83 yX6_has, Cond.static yX6_has, Cond.code yX6_has cX6_has 2 (some .boolean)]
def wsX2_makeJoin : List Cond := .code yX2_makeJoin cX2_makeJoin 5 none :: ((wsX2_makeJoin_r1 ++ wsX2_makeJoin_r2) ++ wsX20 ++ wsX40)
def wsX2_rebuild_r1 : List Cond := [Cond.fieldLink RX2 12 "ScaleGroups$Order" "points" "LScaleGroups$Points;", Cond.fieldLink RX2 66 "ScaleGroups$Points" "count" "I", Cond.fieldLink RX2 60 "ScaleGroups$Order" "nodes" "[I", Cond.fieldLink RX2 51 "ScaleGroups$Order" "pointsAbove" "[I", Cond.fieldLink RX2 18 "ScaleGroups$Order" "count" "I", Cond.methodLink RX2 63 yX2_growTree, Cond.instanceMethod yX2_growTree, Cond.selects RX2 yX2_growTree yX2_growTree, Cond.initialized RX2, Cond.code yX2_growTree cX2_growTree 5 none, Cond.fieldLink RX2 57 "ScaleGroups$Order" "links" "[J", Cond.methodLink RX2 89 Lib.MathLoose.min_long.x, Cond.static Lib.MathLoose.min_long.x, Cond.initialized "java/lang/Math", Cond.code Lib.MathLoose.min_long.x Lib.MathLoose.min_long.code 4 (some .long), Cond.methodLink RX2 71 yX2_keyOf, Cond.instanceMethod yX2_keyOf, Cond.selects RX2 yX2_keyOf yX2_keyOf, Cond.code yX2_keyOf cX2_keyOf 3 (some .long), Cond.methodLink RX2 99 Lib.Math.min.name, Cond.static Lib.Math.min.name, Cond.code Lib.Math.min.name Lib.Math.min.code 2 (some .int), Cond.methodLink RX2 101 Lib.Math.max.name, Cond.static Lib.Math.max.name]
def wsX2_rebuild_r2 : List Cond := [Cond.code Lib.Math.max.name Lib.Math.max.code 2 (some .int), Cond.methodLink RX2 95 yX4_apart, Cond.instanceMethod yX4_apart, Cond.selects RX4 yX4_apart yX4_apart, Cond.initialized RX4, Cond.code yX4_apart cX4_apart 3 (some .int), Cond.fieldLink RX4 15 "ScaleGroups$Points" "xs" "[I", Cond.fieldLink RX4 19 "ScaleGroups$Points" "ys" "[I", Cond.methodLink RX4 33 yX4_squares, Cond.instanceMethod yX4_squares, Cond.selects RX4 yX4_squares yX4_squares, Cond.code yX4_squares cX4_squares 6 (some .int), Cond.methodLink RX2 75 yX2_nextToGrow, Cond.instanceMethod yX2_nextToGrow, Cond.selects RX2 yX2_nextToGrow yX2_nextToGrow, Cond.code yX2_nextToGrow cX2_nextToGrow 4 (some .int), Cond.methodLink RX2 83 yX6_has, Cond.static yX6_has, Cond.initialized RX6, Cond.code yX6_has cX6_has 2 (some .boolean), Cond.methodLink RX2 79 yX2_putKey, Cond.instanceMethod yX2_putKey, Cond.selects RX2 yX2_putKey yX2_putKey, Cond.code yX2_putKey cX2_putKey 4 none]
def wsX2_rebuild_r3 : List Cond := [Cond.fieldLink RX2 22 "ScaleGroups$Order" "keys" "[J", Cond.methodLink RX2 67 yX2_makeJoin, Cond.instanceMethod yX2_makeJoin, Cond.selects RX2 yX2_makeJoin yX2_makeJoin, Cond.code yX2_makeJoin cX2_makeJoin 5 none, Cond.constantLong RX2 104 (31), Cond.fieldLink RX2 26 "ScaleGroups$Order" "aparts" "[I", Cond.fieldLink RX2 30 "ScaleGroups$Order" "roots" "[I", Cond.fieldLink RX2 33 "ScaleGroups$Order" "firsts" "[I", Cond.fieldLink RX2 36 "ScaleGroups$Order" "seconds" "[I", Cond.fieldLink RX2 54 "ScaleGroups$Order" "pairs" "[J", Cond.fieldLink RX2 42 "ScaleGroups$Order" "firstSides" "[I", Cond.fieldLink RX2 45 "ScaleGroups$Order" "otherSides" "[I", Cond.fieldLink RX2 39 "ScaleGroups$Order" "parts" "[I", Cond.fieldLink RX2 48 "ScaleGroups$Order" "joinsAbove" "[I", Cond.methodLink RX2 106 yX6_root, Cond.static yX6_root, Cond.code yX6_root cX6_root 4 (some .int), Cond.methodLink RX2 109 yX2_placeOf, Cond.instanceMethod yX2_placeOf, Cond.selects RX2 yX2_placeOf yX2_placeOf, Cond.code yX2_placeOf cX2_placeOf 2 (some .long), Cond.fieldLink RX2 120 "ScaleGroups$Points" "xs" "[I", Cond.fieldLink RX2 123 "ScaleGroups$Points" "ys" "[I"]
def wsX2_rebuild_r4 : List Cond := [Cond.methodLink RX2 113 yX2_setOf, Cond.instanceMethod yX2_setOf, Cond.selects RX2 yX2_setOf yX2_setOf, Cond.code yX2_setOf cX2_setOf 3 (some .int), Cond.methodLink RX2 126 yX2_joinOf, Cond.static yX2_joinOf, Cond.code yX2_joinOf cX2_joinOf 1 (some .int), Cond.methodLink RX2 116 yX2_putBelow, Cond.instanceMethod yX2_putBelow, Cond.selects RX2 yX2_putBelow yX2_putBelow, Cond.code yX2_putBelow cX2_putBelow 4 none]
def wsX2_rebuild : List Cond := .code yX2_rebuild cX2_rebuild 2 none :: ((wsX2_rebuild_r1 ++ (wsX2_rebuild_r2 ++ (wsX2_rebuild_r3 ++ wsX2_rebuild_r4))) ++ wsX20 ++ wsX40)
def wsX2_partOf : List Cond := .code yX2_partOf cX2_partOf 4 (some .int) :: ([.fieldLink RX2 18 "ScaleGroups$Order" "count" "I", .methodLink RX2 99 Lib.Math.min.name, .static Lib.Math.min.name, .initialized "java/lang/Math", .code Lib.Math.min.name Lib.Math.min.code 2 (some .int), .fieldLink RX2 39 "ScaleGroups$Order" "parts" "[I", .methodLink RX2 83 yX6_has, .static yX6_has, .initialized RX6, .code yX6_has cX6_has 2 (some .boolean)] ++ wsX20)
def wsX2_joinsWithin : List Cond := .code yX2_joinsWithin cX2_joinsWithin 4 (some .int) :: ([.fieldLink RX2 18 "ScaleGroups$Order" "count" "I", .fieldLink RX2 26 "ScaleGroups$Order" "aparts" "[I"] ++ wsX20)
def wsX2_meeting : List Cond := .code yX2_meeting cX2_meeting 4 (some .int) :: ([.fieldLink RX2 18 "ScaleGroups$Order" "count" "I", .fieldLink RX2 39 "ScaleGroups$Order" "parts" "[I", .methodLink RX2 83 yX6_has, .static yX6_has, .initialized RX6, .code yX6_has cX6_has 2 (some .boolean)] ++ wsX20)
def wsX2_makerOf : List Cond := .code yX2_makerOf cX2_makerOf 3 (some .int) :: ([.fieldLink RX2 18 "ScaleGroups$Order" "count" "I", .fieldLink RX2 39 "ScaleGroups$Order" "parts" "[I"] ++ wsX20)
def wsX2_linksOf : List Cond := .code yX2_linksOf cX2_linksOf 4 (some .int) :: ([.fieldLink RX2 18 "ScaleGroups$Order" "count" "I", .fieldLink RX2 33 "ScaleGroups$Order" "firsts" "[I", .fieldLink RX2 36 "ScaleGroups$Order" "seconds" "[I"] ++ wsX20)
def wsX2_mostLinks : List Cond := .code yX2_mostLinks cX2_mostLinks 3 (some .int) :: ([.fieldLink RX2 12 "ScaleGroups$Order" "points" "LScaleGroups$Points;", .fieldLink RX2 66 "ScaleGroups$Points" "count" "I", .methodLink RX2 101 Lib.Math.max.name, .static Lib.Math.max.name, .initialized "java/lang/Math", .code Lib.Math.max.name Lib.Math.max.code 2 (some .int), .methodLink RX2 136 yX2_linksOf, .instanceMethod yX2_linksOf, .selects RX2 yX2_linksOf yX2_linksOf, .initialized RX2, .code yX2_linksOf cX2_linksOf 4 (some .int), .fieldLink RX2 18 "ScaleGroups$Order" "count" "I", .fieldLink RX2 33 "ScaleGroups$Order" "firsts" "[I", .fieldLink RX2 36 "ScaleGroups$Order" "seconds" "[I"] ++ wsX20 ++ wsX40)
def wsX2_sumAparts : List Cond := .code yX2_sumAparts cX2_sumAparts 3 (some .int) :: ([.fieldLink RX2 18 "ScaleGroups$Order" "count" "I", .fieldLink RX2 26 "ScaleGroups$Order" "aparts" "[I"] ++ wsX20)
def wsX2_sumRoots : List Cond := .code yX2_sumRoots cX2_sumRoots 3 (some .int) :: ([.fieldLink RX2 18 "ScaleGroups$Order" "count" "I", .fieldLink RX2 30 "ScaleGroups$Order" "roots" "[I"] ++ wsX20)
def wsX2_hasPair : List Cond := .code yX2_hasPair cX2_hasPair 4 (some .boolean) :: ([.fieldLink RX2 18 "ScaleGroups$Order" "count" "I", .fieldLink RX2 54 "ScaleGroups$Order" "pairs" "[J"] ++ wsX20)
def wsX2_countUnlike : List Cond := .code yX2_countUnlike cX2_countUnlike 4 (some .int) :: ([.fieldLink RX2 18 "ScaleGroups$Order" "count" "I", .fieldLink RX2 54 "ScaleGroups$Order" "pairs" "[J", .methodLink RX2 139 yX2_hasPair, .instanceMethod yX2_hasPair, .selects RX2 yX2_hasPair yX2_hasPair, .initialized RX2, .code yX2_hasPair cX2_hasPair 4 (some .boolean)] ++ wsX20)
def wsX2_sameFromFirst : List Cond := .code yX2_sameFromFirst cX2_sameFromFirst 3 (some .int) :: ([.fieldLink RX2 18 "ScaleGroups$Order" "count" "I", .fieldLink RX2 54 "ScaleGroups$Order" "pairs" "[J"] ++ wsX20)
def wsX3_init : List Cond := .code yX3_init cX3_init 1 none :: ([.methodLink RX3 3 objectInit, .instanceMethod objectInit, .code objectInit ⟨#[0xb1]⟩ 1 none, .fieldLink RX3 9 "ScaleGroups$Outline" "count" "I", .arrayClass .int, .fieldLink RX3 15 "ScaleGroups$Outline" "row" "[I"] ++ wsX30)
def wsX3_cross : List Cond := .code yX3_cross cX3_cross 4 (some .int) :: ([.fieldLink RX3 36 "ScaleGroups$Points" "xs" "[I", .fieldLink RX3 39 "ScaleGroups$Points" "ys" "[I"] ++ wsX40)
def wsX3_turnTo : List Cond := .code yX3_turnTo cX3_turnTo 4 none :: ([.fieldLink RX3 9 "ScaleGroups$Outline" "count" "I", .fieldLink RX3 15 "ScaleGroups$Outline" "row" "[I", .methodLink RX3 32 yX3_cross, .static yX3_cross, .initialized RX3, .code yX3_cross cX3_cross 4 (some .int), .fieldLink RX3 36 "ScaleGroups$Points" "xs" "[I", .fieldLink RX3 39 "ScaleGroups$Points" "ys" "[I"] ++ wsX30 ++ wsX40)
def wsX3_draw : List Cond := .code yX3_draw cX3_draw 5 none :: ([.fieldLink RX3 9 "ScaleGroups$Outline" "count" "I", .fieldLink RX3 19 "ScaleGroups$Points" "count" "I", .fieldLink RX3 15 "ScaleGroups$Outline" "row" "[I", .methodLink RX3 22 yX6_has, .static yX6_has, .initialized RX6, .code yX6_has cX6_has 2 (some .boolean), .methodLink RX3 28 yX3_turnTo, .instanceMethod yX3_turnTo, .selects RX3 yX3_turnTo yX3_turnTo, .initialized RX3, .code yX3_turnTo cX3_turnTo 4 none, .methodLink RX3 32 yX3_cross, .static yX3_cross, .code yX3_cross cX3_cross 4 (some .int), .fieldLink RX3 36 "ScaleGroups$Points" "xs" "[I", .fieldLink RX3 39 "ScaleGroups$Points" "ys" "[I"] ++ wsX30 ++ wsX40)
def wsX3_twiceArea : List Cond := .code yX3_twiceArea cX3_twiceArea 6 (some .int) :: ([.fieldLink RX3 9 "ScaleGroups$Outline" "count" "I", .fieldLink RX3 15 "ScaleGroups$Outline" "row" "[I", .fieldLink RX3 36 "ScaleGroups$Points" "xs" "[I", .fieldLink RX3 39 "ScaleGroups$Points" "ys" "[I"] ++ wsX30 ++ wsX40)
def wsX4_find : List Cond := .code yX4_find cX4_find 4 (some .int) :: ([.fieldLink RX4 9 "ScaleGroups$Points" "count" "I", .fieldLink RX4 15 "ScaleGroups$Points" "xs" "[I", .fieldLink RX4 19 "ScaleGroups$Points" "ys" "[I"] ++ wsX40)
def wsX4_canCome : List Cond := .code yX4_canCome cX4_canCome 3 (some .boolean) :: ([.fieldLink RX4 9 "ScaleGroups$Points" "count" "I", .methodLink RX4 25 yX4_find, .instanceMethod yX4_find, .selects RX4 yX4_find yX4_find, .initialized RX4, .code yX4_find cX4_find 4 (some .int), .fieldLink RX4 15 "ScaleGroups$Points" "xs" "[I", .fieldLink RX4 19 "ScaleGroups$Points" "ys" "[I"] ++ wsX40)
def wsX4_move : List Cond := .code yX4_move cX4_move 3 none :: ([.fieldLink RX4 15 "ScaleGroups$Points" "xs" "[I", .fieldLink RX4 19 "ScaleGroups$Points" "ys" "[I", .fieldLink RX4 22 "ScaleGroups$Points" "ws" "[I"] ++ wsX40)
def wsX4_put : List Cond := .code yX4_put cX4_put 5 none :: ([.fieldLink RX4 9 "ScaleGroups$Points" "count" "I", .fieldLink RX4 15 "ScaleGroups$Points" "xs" "[I", .fieldLink RX4 19 "ScaleGroups$Points" "ys" "[I", .fieldLink RX4 22 "ScaleGroups$Points" "ws" "[I", .methodLink RX4 29 yX4_move, .instanceMethod yX4_move, .selects RX4 yX4_move yX4_move, .initialized RX4, .code yX4_move cX4_move 3 none] ++ wsX40)
def wsX4_drop : List Cond := .code yX4_drop cX4_drop 3 none :: ([.fieldLink RX4 9 "ScaleGroups$Points" "count" "I", .methodLink RX4 29 yX4_move, .instanceMethod yX4_move, .selects RX4 yX4_move yX4_move, .initialized RX4, .code yX4_move cX4_move 3 none, .fieldLink RX4 15 "ScaleGroups$Points" "xs" "[I", .fieldLink RX4 19 "ScaleGroups$Points" "ys" "[I", .fieldLink RX4 22 "ScaleGroups$Points" "ws" "[I"] ++ wsX40)
def wsX4_copy : List Cond := .code yX4_copy cX4_copy 3 none :: ([.fieldLink RX4 9 "ScaleGroups$Points" "count" "I", .fieldLink RX4 15 "ScaleGroups$Points" "xs" "[I", .fieldLink RX4 19 "ScaleGroups$Points" "ys" "[I", .fieldLink RX4 22 "ScaleGroups$Points" "ws" "[I"] ++ wsX40)
def wsX4_nearestTo : List Cond := .code yX4_nearestTo cX4_nearestTo 5 (some .int) :: ([.fieldLink RX4 9 "ScaleGroups$Points" "count" "I", .methodLink RX4 37 yX4_apart, .instanceMethod yX4_apart, .selects RX4 yX4_apart yX4_apart, .initialized RX4, .code yX4_apart cX4_apart 3 (some .int), .fieldLink RX4 15 "ScaleGroups$Points" "xs" "[I", .fieldLink RX4 19 "ScaleGroups$Points" "ys" "[I", .methodLink RX4 33 yX4_squares, .instanceMethod yX4_squares, .selects RX4 yX4_squares yX4_squares, .code yX4_squares cX4_squares 6 (some .int)] ++ wsX40)
def wsX4_apartFromNearest : List Cond := .code yX4_apartFromNearest cX4_apartFromNearest 3 (some .int) :: ([.methodLink RX4 40 yX4_nearestTo, .instanceMethod yX4_nearestTo, .selects RX4 yX4_nearestTo yX4_nearestTo, .initialized RX4, .code yX4_nearestTo cX4_nearestTo 5 (some .int), .fieldLink RX4 9 "ScaleGroups$Points" "count" "I", .methodLink RX4 37 yX4_apart, .instanceMethod yX4_apart, .selects RX4 yX4_apart yX4_apart, .code yX4_apart cX4_apart 3 (some .int), .fieldLink RX4 15 "ScaleGroups$Points" "xs" "[I", .fieldLink RX4 19 "ScaleGroups$Points" "ys" "[I", .methodLink RX4 33 yX4_squares, .instanceMethod yX4_squares, .selects RX4 yX4_squares yX4_squares, .code yX4_squares cX4_squares 6 (some .int)] ++ wsX40)
def wsX4_within : List Cond := .code yX4_within cX4_within 7 (some .int) :: ([.fieldLink RX4 9 "ScaleGroups$Points" "count" "I", .fieldLink RX4 15 "ScaleGroups$Points" "xs" "[I", .fieldLink RX4 19 "ScaleGroups$Points" "ys" "[I"] ++ wsX40)
def wsX4_heaviestOf : List Cond := .code yX4_heaviestOf cX4_heaviestOf 5 (some .int) :: ([.fieldLink RX4 9 "ScaleGroups$Points" "count" "I", .fieldLink RX4 22 "ScaleGroups$Points" "ws" "[I", .methodLink RX4 44 yX6_has, .static yX6_has, .initialized RX6, .code yX6_has cX6_has 2 (some .boolean)] ++ wsX40)
def wsX4_wide : List Cond := .code yX4_wide cX4_wide 5 (some .int) :: ([.fieldLink RX4 9 "ScaleGroups$Points" "count" "I", .methodLink RX4 50 Lib.Math.max.name, .static Lib.Math.max.name, .initialized "java/lang/Math", .code Lib.Math.max.name Lib.Math.max.code 2 (some .int), .methodLink RX4 44 yX6_has, .static yX6_has, .initialized RX6, .code yX6_has cX6_has 2 (some .boolean), .methodLink RX4 37 yX4_apart, .instanceMethod yX4_apart, .selects RX4 yX4_apart yX4_apart, .initialized RX4, .code yX4_apart cX4_apart 3 (some .int), .fieldLink RX4 15 "ScaleGroups$Points" "xs" "[I", .fieldLink RX4 19 "ScaleGroups$Points" "ys" "[I", .methodLink RX4 33 yX4_squares, .instanceMethod yX4_squares, .selects RX4 yX4_squares yX4_squares, .code yX4_squares cX4_squares 6 (some .int)] ++ wsX40)
def wsX5_init : List Cond := .code yX5_init cX5_init 1 none :: ([.methodLink RX5 3 objectInit, .instanceMethod objectInit, .code objectInit ⟨#[0xb1]⟩ 1 none, .fieldLink RX5 9 "ScaleGroups$Scale" "count" "I", .arrayClass .int, .fieldLink RX5 15 "ScaleGroups$Scale" "sets" "[I", .fieldLink RX5 19 "ScaleGroups$Scale" "weights" "[I", .fieldLink RX5 22 "ScaleGroups$Scale" "xs" "[I", .fieldLink RX5 25 "ScaleGroups$Scale" "ys" "[I", .fieldLink RX5 28 "ScaleGroups$Scale" "groupAt" "[I"] ++ wsX50)
def wsX5_gather : List Cond := .code yX5_gather cX5_gather 7 none :: ([.fieldLink RX5 41 "ScaleGroups$Points" "count" "I", .fieldLink RX5 15 "ScaleGroups$Scale" "sets" "[I", .fieldLink RX5 28 "ScaleGroups$Scale" "groupAt" "[I", .fieldLink RX5 58 "ScaleGroups$Points" "ws" "[I", .fieldLink RX5 61 "ScaleGroups$Points" "xs" "[I", .fieldLink RX5 62 "ScaleGroups$Points" "ys" "[I", .fieldLink RX5 19 "ScaleGroups$Scale" "weights" "[I", .fieldLink RX5 22 "ScaleGroups$Scale" "xs" "[I", .fieldLink RX5 25 "ScaleGroups$Scale" "ys" "[I", .methodLink RX5 44 yX6_has, .static yX6_has, .initialized RX6, .code yX6_has cX6_has 2 (some .boolean)] ++ wsX40 ++ wsX50)
def wsX5_cut_r1 : List Cond := [Cond.fieldLink RX5 9 "ScaleGroups$Scale" "count" "I", Cond.fieldLink RX5 37 "ScaleGroups$Order" "points" "LScaleGroups$Points;", Cond.fieldLink RX5 41 "ScaleGroups$Points" "count" "I", Cond.fieldLink RX5 15 "ScaleGroups$Scale" "sets" "[I", Cond.methodLink RX5 31 yX2_joinsWithin, Cond.instanceMethod yX2_joinsWithin, Cond.selects RX2 yX2_joinsWithin yX2_joinsWithin, Cond.initialized RX2, Cond.code yX2_joinsWithin cX2_joinsWithin 4 (some .int), Cond.fieldLink RX2 18 "ScaleGroups$Order" "count" "I", Cond.fieldLink RX2 26 "ScaleGroups$Order" "aparts" "[I", Cond.methodLink RX5 44 yX6_has, Cond.static yX6_has, Cond.initialized RX6, Cond.code yX6_has cX6_has 2 (some .boolean), Cond.methodLink RX5 50 yX2_partOf, Cond.instanceMethod yX2_partOf, Cond.selects RX2 yX2_partOf yX2_partOf, Cond.code yX2_partOf cX2_partOf 4 (some .int), Cond.methodLink RX2 99 Lib.Math.min.name, Cond.static Lib.Math.min.name, Cond.initialized "java/lang/Math", Cond.code Lib.Math.min.name Lib.Math.min.code 2 (some .int), Cond.fieldLink RX2 39 "ScaleGroups$Order" "parts" "[I"]
def wsX5_cut_r2 : List Cond := [Cond.methodLink RX2 83 yX6_has, Cond.methodLink RX5 54 yX5_gather, Cond.instanceMethod yX5_gather, Cond.selects RX5 yX5_gather yX5_gather, Cond.initialized RX5, Cond.code yX5_gather cX5_gather 7 none, Cond.fieldLink RX5 28 "ScaleGroups$Scale" "groupAt" "[I", Cond.fieldLink RX5 58 "ScaleGroups$Points" "ws" "[I", Cond.fieldLink RX5 61 "ScaleGroups$Points" "xs" "[I", Cond.fieldLink RX5 62 "ScaleGroups$Points" "ys" "[I", Cond.fieldLink RX5 19 "ScaleGroups$Scale" "weights" "[I", Cond.fieldLink RX5 22 "ScaleGroups$Scale" "xs" "[I", Cond.fieldLink RX5 25 "ScaleGroups$Scale" "ys" "[I"]
def wsX5_cut : List Cond := .code yX5_cut cX5_cut 6 none :: ((wsX5_cut_r1 ++ wsX5_cut_r2) ++ wsX50 ++ wsX20 ++ wsX40)
def wsX5_groupsWithin : List Cond := .code yX5_groupsWithin cX5_groupsWithin 4 (some .int) :: ([.fieldLink RX5 9 "ScaleGroups$Scale" "count" "I", .fieldLink RX5 15 "ScaleGroups$Scale" "sets" "[I"] ++ wsX50)
def wsX5_groupOfPart : List Cond := .code yX5_groupOfPart cX5_groupOfPart 3 (some .int) :: ([.fieldLink RX5 9 "ScaleGroups$Scale" "count" "I", .fieldLink RX5 15 "ScaleGroups$Scale" "sets" "[I"] ++ wsX50)
def wsX5_centresIn : List Cond := .code yX5_centresIn cX5_centresIn 7 (some .int) :: ([.fieldLink RX5 9 "ScaleGroups$Scale" "count" "I", .fieldLink RX5 22 "ScaleGroups$Scale" "xs" "[I", .fieldLink RX5 25 "ScaleGroups$Scale" "ys" "[I"] ++ wsX50)
def wsX5_weightOf : List Cond := .code yX5_weightOf cX5_weightOf 4 (some .int) :: ([.fieldLink RX5 9 "ScaleGroups$Scale" "count" "I", .fieldLink RX5 19 "ScaleGroups$Scale" "weights" "[I", .methodLink RX5 44 yX6_has, .static yX6_has, .initialized RX6, .code yX6_has cX6_has 2 (some .boolean)] ++ wsX50)
def wsX6_lowest : List Cond := .code yX6_lowest cX6_lowest 4 (some .int) :: ([.methodLink RX6 19 Lib.Math.min.name, .static Lib.Math.min.name, .initialized "java/lang/Math", .code Lib.Math.min.name Lib.Math.min.code 2 (some .int), .methodLink RX6 15 yX6_has, .static yX6_has, .initialized RX6, .code yX6_has cX6_has 2 (some .boolean)])
def wsX6_highest : List Cond := .code yX6_highest cX6_highest 4 (some .int) :: ([.methodLink RX6 24 Lib.Math.max.name, .static Lib.Math.max.name, .initialized "java/lang/Math", .code Lib.Math.max.name Lib.Math.max.code 2 (some .int), .methodLink RX6 15 yX6_has, .static yX6_has, .initialized RX6, .code yX6_has cX6_has 2 (some .boolean)])
def wsX7_init : List Cond := .code yX7_init cX7_init 1 none :: ([.methodLink RX7 3 objectInit, .instanceMethod objectInit, .code objectInit ⟨#[0xb1]⟩ 1 none, .classLink RX7 9 "[[I", .arrayClass .int, .fieldLink RX7 11 "ScaleGroups$Ways" "far" "[[I"] ++ wsX70)
def wsX7_link : List Cond := .code yX7_link cX7_link 10 none :: ([.fieldLink RX7 37 "ScaleGroups$Order" "firstSides" "[I", .fieldLink RX7 44 "ScaleGroups$Order" "otherSides" "[I", .fieldLink RX7 47 "ScaleGroups$Order" "firsts" "[I", .fieldLink RX7 50 "ScaleGroups$Order" "seconds" "[I", .fieldLink RX7 16 "ScaleGroups$Order" "points" "LScaleGroups$Points;", .fieldLink RX7 22 "ScaleGroups$Points" "count" "I", .fieldLink RX7 11 "ScaleGroups$Ways" "far" "[[I", .methodLink RX7 40 yX2_setOf, .instanceMethod yX2_setOf, .selects RX2 yX2_setOf yX2_setOf, .initialized RX2, .code yX2_setOf cX2_setOf 3 (some .int), .fieldLink RX2 39 "ScaleGroups$Order" "parts" "[I", .methodLink RX2 126 yX2_joinOf, .static yX2_joinOf, .code yX2_joinOf cX2_joinOf 1 (some .int), .methodLink RX7 53 yX6_has, .static yX6_has, .initialized RX6, .code yX6_has cX6_has 2 (some .boolean)] ++ wsX20 ++ wsX40 ++ wsX70)
def wsX7_measure_r1 : List Cond := [Cond.fieldLink RX7 16 "ScaleGroups$Order" "points" "LScaleGroups$Points;", Cond.fieldLink RX7 22 "ScaleGroups$Points" "count" "I", Cond.fieldLink RX7 11 "ScaleGroups$Ways" "far" "[[I", Cond.fieldLink RX7 28 "ScaleGroups$Order" "count" "I", Cond.fieldLink RX7 29 "ScaleGroups$Order" "roots" "[I", Cond.methodLink RX7 33 yX7_link, Cond.instanceMethod yX7_link, Cond.selects RX7 yX7_link yX7_link, Cond.initialized RX7, Cond.code yX7_link cX7_link 10 none, Cond.fieldLink RX7 37 "ScaleGroups$Order" "firstSides" "[I", Cond.fieldLink RX7 44 "ScaleGroups$Order" "otherSides" "[I", Cond.fieldLink RX7 47 "ScaleGroups$Order" "firsts" "[I", Cond.fieldLink RX7 50 "ScaleGroups$Order" "seconds" "[I", Cond.methodLink RX7 40 yX2_setOf, Cond.instanceMethod yX2_setOf, Cond.selects RX2 yX2_setOf yX2_setOf, Cond.initialized RX2, Cond.code yX2_setOf cX2_setOf 3 (some .int), Cond.fieldLink RX2 39 "ScaleGroups$Order" "parts" "[I", Cond.methodLink RX2 126 yX2_joinOf, Cond.static yX2_joinOf, Cond.code yX2_joinOf cX2_joinOf 1 (some .int), Cond.methodLink RX7 53 yX6_has]
def wsX7_measure_r2 : List Cond := [Cond.static yX6_has, Cond.initialized RX6, Cond.code yX6_has cX6_has 2 (some .boolean)]
def wsX7_measure : List Cond := .code yX7_measure cX7_measure 4 none :: ((wsX7_measure_r1 ++ wsX7_measure_r2) ++ wsX20 ++ wsX40 ++ wsX70)
def wsX8_init_r1 : List Cond := [Cond.methodLink RX8 3 objectInit, Cond.instanceMethod objectInit, Cond.code objectInit ⟨#[0xb1]⟩ 1 none, Cond.classLink RX8 9 RX2, Cond.instantiable RX2 15, Cond.initialized RX2, Cond.fieldLink RX8 12 "ScaleGroups" "now" "LScaleGroups$Order;", Cond.fieldLink RX8 16 "ScaleGroups" "ahead" "LScaleGroups$Order;", Cond.fieldLink RX8 19 "ScaleGroups" "tried" "LScaleGroups$Order;", Cond.classLink RX8 22 RX5, Cond.instantiable RX5 6, Cond.initialized RX5, Cond.fieldLink RX8 25 "ScaleGroups" "scale" "LScaleGroups$Scale;", Cond.fieldLink RX8 29 "ScaleGroups" "other" "LScaleGroups$Scale;", Cond.classLink RX8 32 RX0, Cond.instantiable RX0 3, Cond.initialized RX0, Cond.fieldLink RX8 35 "ScaleGroups" "labels" "LScaleGroups$Labels;", Cond.classLink RX8 39 RX3, Cond.instantiable RX3 2, Cond.initialized RX3, Cond.fieldLink RX8 42 "ScaleGroups" "corners" "LScaleGroups$Outline;", Cond.classLink RX8 46 RX7, Cond.instantiable RX7 1]
def wsX8_init_r2 : List Cond := [Cond.initialized RX7, Cond.fieldLink RX8 49 "ScaleGroups" "ways" "LScaleGroups$Ways;", Cond.classLink RX8 53 RX1, Cond.instantiable RX1 5, Cond.initialized RX1, Cond.fieldLink RX8 56 "ScaleGroups" "lasting" "LScaleGroups$Lasting;", Cond.arrayClass .int, Cond.fieldLink RX8 60 "ScaleGroups" "row" "[I", Cond.fieldLink RX8 64 "ScaleGroups" "labelSize" "I", Cond.fieldLink RX8 68 "ScaleGroups" "drawState" "I", Cond.methodLink RX8 11 yX2_init, Cond.instanceMethod yX2_init, Cond.code yX2_init cX2_init 1 none, Cond.methodLink RX2 3 objectInit, Cond.classLink RX2 9 RX4, Cond.instantiable RX4 4, Cond.initialized RX4, Cond.fieldLink RX2 12 "ScaleGroups$Order" "points" "LScaleGroups$Points;", Cond.fieldLink RX2 18 "ScaleGroups$Order" "count" "I", Cond.arrayClass .long, Cond.fieldLink RX2 22 "ScaleGroups$Order" "keys" "[J", Cond.fieldLink RX2 26 "ScaleGroups$Order" "aparts" "[I", Cond.fieldLink RX2 30 "ScaleGroups$Order" "roots" "[I", Cond.fieldLink RX2 33 "ScaleGroups$Order" "firsts" "[I"]
def wsX8_init_r3 : List Cond := [Cond.fieldLink RX2 36 "ScaleGroups$Order" "seconds" "[I", Cond.fieldLink RX2 39 "ScaleGroups$Order" "parts" "[I", Cond.fieldLink RX2 42 "ScaleGroups$Order" "firstSides" "[I", Cond.fieldLink RX2 45 "ScaleGroups$Order" "otherSides" "[I", Cond.fieldLink RX2 48 "ScaleGroups$Order" "joinsAbove" "[I", Cond.fieldLink RX2 51 "ScaleGroups$Order" "pointsAbove" "[I", Cond.fieldLink RX2 54 "ScaleGroups$Order" "pairs" "[J", Cond.fieldLink RX2 57 "ScaleGroups$Order" "links" "[J", Cond.fieldLink RX2 60 "ScaleGroups$Order" "nodes" "[I", Cond.methodLink RX2 11 yX4_init, Cond.instanceMethod yX4_init, Cond.code yX4_init cX4_init 1 none, Cond.methodLink RX4 3 objectInit, Cond.fieldLink RX4 9 "ScaleGroups$Points" "count" "I", Cond.fieldLink RX4 15 "ScaleGroups$Points" "xs" "[I", Cond.fieldLink RX4 19 "ScaleGroups$Points" "ys" "[I", Cond.fieldLink RX4 22 "ScaleGroups$Points" "ws" "[I", Cond.methodLink RX8 24 yX5_init, Cond.instanceMethod yX5_init, Cond.code yX5_init cX5_init 1 none, Cond.methodLink RX5 3 objectInit, Cond.fieldLink RX5 9 "ScaleGroups$Scale" "count" "I", Cond.fieldLink RX5 15 "ScaleGroups$Scale" "sets" "[I", Cond.fieldLink RX5 19 "ScaleGroups$Scale" "weights" "[I"]
def wsX8_init_r4 : List Cond := [Cond.fieldLink RX5 22 "ScaleGroups$Scale" "xs" "[I", Cond.fieldLink RX5 25 "ScaleGroups$Scale" "ys" "[I", Cond.fieldLink RX5 28 "ScaleGroups$Scale" "groupAt" "[I", Cond.methodLink RX8 34 yX0_init, Cond.instanceMethod yX0_init, Cond.code yX0_init cX0_init 1 none, Cond.methodLink RX0 3 objectInit, Cond.fieldLink RX0 9 "ScaleGroups$Labels" "count" "I", Cond.fieldLink RX0 15 "ScaleGroups$Labels" "visible" "[I", Cond.fieldLink RX0 19 "ScaleGroups$Labels" "holders" "[I", Cond.methodLink RX8 41 yX3_init, Cond.instanceMethod yX3_init, Cond.code yX3_init cX3_init 1 none, Cond.methodLink RX3 3 objectInit, Cond.fieldLink RX3 9 "ScaleGroups$Outline" "count" "I", Cond.fieldLink RX3 15 "ScaleGroups$Outline" "row" "[I", Cond.methodLink RX8 48 yX7_init, Cond.instanceMethod yX7_init, Cond.code yX7_init cX7_init 1 none, Cond.methodLink RX7 3 objectInit, Cond.classLink RX7 9 "[[I", Cond.fieldLink RX7 11 "ScaleGroups$Ways" "far" "[[I", Cond.methodLink RX8 55 yX1_init, Cond.instanceMethod yX1_init]
def wsX8_init_r5 : List Cond := [Cond.code yX1_init cX1_init 1 none, Cond.methodLink RX1 3 objectInit, Cond.fieldLink RX1 9 "ScaleGroups$Lasting" "total" "I", Cond.fieldLink RX1 15 "ScaleGroups$Lasting" "count" "I", Cond.fieldLink RX1 18 "ScaleGroups$Lasting" "totals" "[I", Cond.arrayClass .boolean, Cond.fieldLink RX1 22 "ScaleGroups$Lasting" "open" "[Z", Cond.fieldLink RX1 26 "ScaleGroups$Lasting" "nodesByLeast" "[I"]
def wsX8_init : List Cond := .code yX8_init cX8_init 1 none :: ((wsX8_init_r1 ++ (wsX8_init_r2 ++ (wsX8_init_r3 ++ (wsX8_init_r4 ++ wsX8_init_r5)))) ++ wsX20 ++ wsX80 ++ wsX50 ++ wsX00 ++ wsX30 ++ wsX70 ++ wsX10 ++ wsX40)
def wsX8_isWeight : List Cond := .code yX8_isWeight cX8_isWeight 1 (some .boolean) :: ([])
def wsX8_startRepair : List Cond := .code yX8_startRepair cX8_startRepair 2 none :: ([.fieldLink RX8 16 "ScaleGroups" "ahead" "LScaleGroups$Order;", .fieldLink RX8 12 "ScaleGroups" "now" "LScaleGroups$Order;", .fieldLink RX8 75 "ScaleGroups$Order" "points" "LScaleGroups$Points;", .methodLink RX8 335 yX4_copy, .instanceMethod yX4_copy, .selects RX4 yX4_copy yX4_copy, .initialized RX4, .code yX4_copy cX4_copy 3 none, .fieldLink RX4 9 "ScaleGroups$Points" "count" "I", .fieldLink RX4 15 "ScaleGroups$Points" "xs" "[I", .fieldLink RX4 19 "ScaleGroups$Points" "ys" "[I", .fieldLink RX4 22 "ScaleGroups$Points" "ws" "[I"] ++ wsX80 ++ wsX20 ++ wsX40)
def wsX8_add_r1 : List Cond := [Cond.fieldLink RX8 12 "ScaleGroups" "now" "LScaleGroups$Order;", Cond.fieldLink RX8 75 "ScaleGroups$Order" "points" "LScaleGroups$Points;", Cond.fieldLink RX8 16 "ScaleGroups" "ahead" "LScaleGroups$Order;", Cond.methodLink RX8 71 yX8_isWeight, Cond.static yX8_isWeight, Cond.initialized RX8, Cond.code yX8_isWeight cX8_isWeight 1 (some .boolean), Cond.methodLink RX8 79 yX4_canCome, Cond.instanceMethod yX4_canCome, Cond.selects RX4 yX4_canCome yX4_canCome, Cond.initialized RX4, Cond.code yX4_canCome cX4_canCome 3 (some .boolean), Cond.fieldLink RX4 9 "ScaleGroups$Points" "count" "I", Cond.methodLink RX4 25 yX4_find, Cond.instanceMethod yX4_find, Cond.selects RX4 yX4_find yX4_find, Cond.code yX4_find cX4_find 4 (some .int), Cond.fieldLink RX4 15 "ScaleGroups$Points" "xs" "[I", Cond.fieldLink RX4 19 "ScaleGroups$Points" "ys" "[I", Cond.methodLink RX8 85 yX8_startRepair, Cond.instanceMethod yX8_startRepair, Cond.selects RX8 yX8_startRepair yX8_startRepair, Cond.code yX8_startRepair cX8_startRepair 2 none, Cond.methodLink RX8 335 yX4_copy]
def wsX8_add_r2 : List Cond := [Cond.instanceMethod yX4_copy, Cond.selects RX4 yX4_copy yX4_copy, Cond.code yX4_copy cX4_copy 3 none, Cond.fieldLink RX4 22 "ScaleGroups$Points" "ws" "[I", Cond.methodLink RX8 88 yX4_put, Cond.instanceMethod yX4_put, Cond.selects RX4 yX4_put yX4_put, Cond.code yX4_put cX4_put 5 none, Cond.methodLink RX4 29 yX4_move, Cond.instanceMethod yX4_move, Cond.selects RX4 yX4_move yX4_move, Cond.code yX4_move cX4_move 3 none, Cond.methodLink RX8 92 yX2_rebuild, Cond.instanceMethod yX2_rebuild, Cond.selects RX2 yX2_rebuild yX2_rebuild, Cond.initialized RX2, Cond.code yX2_rebuild cX2_rebuild 2 none, Cond.fieldLink RX2 12 "ScaleGroups$Order" "points" "LScaleGroups$Points;", Cond.fieldLink RX2 66 "ScaleGroups$Points" "count" "I", Cond.fieldLink RX2 60 "ScaleGroups$Order" "nodes" "[I", Cond.fieldLink RX2 51 "ScaleGroups$Order" "pointsAbove" "[I", Cond.fieldLink RX2 18 "ScaleGroups$Order" "count" "I", Cond.methodLink RX2 63 yX2_growTree, Cond.instanceMethod yX2_growTree]
def wsX8_add_r3 : List Cond := [Cond.selects RX2 yX2_growTree yX2_growTree, Cond.code yX2_growTree cX2_growTree 5 none, Cond.fieldLink RX2 57 "ScaleGroups$Order" "links" "[J", Cond.methodLink RX2 89 Lib.MathLoose.min_long.x, Cond.static Lib.MathLoose.min_long.x, Cond.initialized "java/lang/Math", Cond.code Lib.MathLoose.min_long.x Lib.MathLoose.min_long.code 4 (some .long), Cond.methodLink RX2 71 yX2_keyOf, Cond.instanceMethod yX2_keyOf, Cond.selects RX2 yX2_keyOf yX2_keyOf, Cond.code yX2_keyOf cX2_keyOf 3 (some .long), Cond.methodLink RX2 99 Lib.Math.min.name, Cond.static Lib.Math.min.name, Cond.code Lib.Math.min.name Lib.Math.min.code 2 (some .int), Cond.methodLink RX2 101 Lib.Math.max.name, Cond.static Lib.Math.max.name, Cond.code Lib.Math.max.name Lib.Math.max.code 2 (some .int), Cond.methodLink RX2 95 yX4_apart, Cond.instanceMethod yX4_apart, Cond.selects RX4 yX4_apart yX4_apart, Cond.code yX4_apart cX4_apart 3 (some .int), Cond.methodLink RX4 33 yX4_squares, Cond.instanceMethod yX4_squares, Cond.selects RX4 yX4_squares yX4_squares]
def wsX8_add_r4 : List Cond := [Cond.code yX4_squares cX4_squares 6 (some .int), Cond.methodLink RX2 75 yX2_nextToGrow, Cond.instanceMethod yX2_nextToGrow, Cond.selects RX2 yX2_nextToGrow yX2_nextToGrow, Cond.code yX2_nextToGrow cX2_nextToGrow 4 (some .int), Cond.methodLink RX2 83 yX6_has, Cond.static yX6_has, Cond.initialized RX6, Cond.code yX6_has cX6_has 2 (some .boolean), Cond.methodLink RX2 79 yX2_putKey, Cond.instanceMethod yX2_putKey, Cond.selects RX2 yX2_putKey yX2_putKey, Cond.code yX2_putKey cX2_putKey 4 none, Cond.fieldLink RX2 22 "ScaleGroups$Order" "keys" "[J", Cond.methodLink RX2 67 yX2_makeJoin, Cond.instanceMethod yX2_makeJoin, Cond.selects RX2 yX2_makeJoin yX2_makeJoin, Cond.code yX2_makeJoin cX2_makeJoin 5 none, Cond.constantLong RX2 104 (31), Cond.fieldLink RX2 26 "ScaleGroups$Order" "aparts" "[I", Cond.fieldLink RX2 30 "ScaleGroups$Order" "roots" "[I", Cond.fieldLink RX2 33 "ScaleGroups$Order" "firsts" "[I", Cond.fieldLink RX2 36 "ScaleGroups$Order" "seconds" "[I", Cond.fieldLink RX2 54 "ScaleGroups$Order" "pairs" "[J"]
def wsX8_add_r5 : List Cond := [Cond.fieldLink RX2 42 "ScaleGroups$Order" "firstSides" "[I", Cond.fieldLink RX2 45 "ScaleGroups$Order" "otherSides" "[I", Cond.fieldLink RX2 39 "ScaleGroups$Order" "parts" "[I", Cond.fieldLink RX2 48 "ScaleGroups$Order" "joinsAbove" "[I", Cond.methodLink RX2 106 yX6_root, Cond.static yX6_root, Cond.code yX6_root cX6_root 4 (some .int), Cond.methodLink RX2 109 yX2_placeOf, Cond.instanceMethod yX2_placeOf, Cond.selects RX2 yX2_placeOf yX2_placeOf, Cond.code yX2_placeOf cX2_placeOf 2 (some .long), Cond.fieldLink RX2 120 "ScaleGroups$Points" "xs" "[I", Cond.fieldLink RX2 123 "ScaleGroups$Points" "ys" "[I", Cond.methodLink RX2 113 yX2_setOf, Cond.instanceMethod yX2_setOf, Cond.selects RX2 yX2_setOf yX2_setOf, Cond.code yX2_setOf cX2_setOf 3 (some .int), Cond.methodLink RX2 126 yX2_joinOf, Cond.static yX2_joinOf, Cond.code yX2_joinOf cX2_joinOf 1 (some .int), Cond.methodLink RX2 116 yX2_putBelow, Cond.instanceMethod yX2_putBelow, Cond.selects RX2 yX2_putBelow yX2_putBelow, Cond.code yX2_putBelow cX2_putBelow 4 none]
def wsX8_add_r6 : List Cond := [Cond.methodLink RX8 95 yX2_countUnlike, Cond.instanceMethod yX2_countUnlike, Cond.selects RX2 yX2_countUnlike yX2_countUnlike, Cond.code yX2_countUnlike cX2_countUnlike 4 (some .int), Cond.methodLink RX2 139 yX2_hasPair, Cond.instanceMethod yX2_hasPair, Cond.selects RX2 yX2_hasPair yX2_hasPair, Cond.code yX2_hasPair cX2_hasPair 4 (some .boolean)]
def wsX8_add : List Cond := .code yX8_add cX8_add 4 (some .int) :: ((wsX8_add_r1 ++ (wsX8_add_r2 ++ (wsX8_add_r3 ++ (wsX8_add_r4 ++ (wsX8_add_r5 ++ wsX8_add_r6))))) ++ wsX80 ++ wsX20 ++ wsX40)
def wsX8_isPoint : List Cond := .code yX8_isPoint cX8_isPoint 2 (some .boolean) :: ([.fieldLink RX8 12 "ScaleGroups" "now" "LScaleGroups$Order;", .fieldLink RX8 75 "ScaleGroups$Order" "points" "LScaleGroups$Points;", .fieldLink RX8 113 "ScaleGroups$Points" "count" "I"] ++ wsX80 ++ wsX20 ++ wsX40)
def wsX8_take_r1 : List Cond := [Cond.fieldLink RX8 12 "ScaleGroups" "now" "LScaleGroups$Order;", Cond.fieldLink RX8 75 "ScaleGroups$Order" "points" "LScaleGroups$Points;", Cond.fieldLink RX8 16 "ScaleGroups" "ahead" "LScaleGroups$Order;", Cond.methodLink RX8 99 yX8_isPoint, Cond.instanceMethod yX8_isPoint, Cond.selects RX8 yX8_isPoint yX8_isPoint, Cond.initialized RX8, Cond.code yX8_isPoint cX8_isPoint 2 (some .boolean), Cond.fieldLink RX8 113 "ScaleGroups$Points" "count" "I", Cond.methodLink RX8 85 yX8_startRepair, Cond.instanceMethod yX8_startRepair, Cond.selects RX8 yX8_startRepair yX8_startRepair, Cond.code yX8_startRepair cX8_startRepair 2 none, Cond.methodLink RX8 335 yX4_copy, Cond.instanceMethod yX4_copy, Cond.selects RX4 yX4_copy yX4_copy, Cond.initialized RX4, Cond.code yX4_copy cX4_copy 3 none, Cond.fieldLink RX4 9 "ScaleGroups$Points" "count" "I", Cond.fieldLink RX4 15 "ScaleGroups$Points" "xs" "[I", Cond.fieldLink RX4 19 "ScaleGroups$Points" "ys" "[I", Cond.fieldLink RX4 22 "ScaleGroups$Points" "ws" "[I", Cond.methodLink RX8 102 yX4_drop, Cond.instanceMethod yX4_drop]
def wsX8_take_r2 : List Cond := [Cond.selects RX4 yX4_drop yX4_drop, Cond.code yX4_drop cX4_drop 3 none, Cond.methodLink RX4 29 yX4_move, Cond.instanceMethod yX4_move, Cond.selects RX4 yX4_move yX4_move, Cond.code yX4_move cX4_move 3 none, Cond.methodLink RX8 92 yX2_rebuild, Cond.instanceMethod yX2_rebuild, Cond.selects RX2 yX2_rebuild yX2_rebuild, Cond.initialized RX2, Cond.code yX2_rebuild cX2_rebuild 2 none, Cond.fieldLink RX2 12 "ScaleGroups$Order" "points" "LScaleGroups$Points;", Cond.fieldLink RX2 66 "ScaleGroups$Points" "count" "I", Cond.fieldLink RX2 60 "ScaleGroups$Order" "nodes" "[I", Cond.fieldLink RX2 51 "ScaleGroups$Order" "pointsAbove" "[I", Cond.fieldLink RX2 18 "ScaleGroups$Order" "count" "I", Cond.methodLink RX2 63 yX2_growTree, Cond.instanceMethod yX2_growTree, Cond.selects RX2 yX2_growTree yX2_growTree, Cond.code yX2_growTree cX2_growTree 5 none, Cond.fieldLink RX2 57 "ScaleGroups$Order" "links" "[J", Cond.methodLink RX2 89 Lib.MathLoose.min_long.x, Cond.static Lib.MathLoose.min_long.x, Cond.initialized "java/lang/Math"]
def wsX8_take_r3 : List Cond := [Cond.code Lib.MathLoose.min_long.x Lib.MathLoose.min_long.code 4 (some .long), Cond.methodLink RX2 71 yX2_keyOf, Cond.instanceMethod yX2_keyOf, Cond.selects RX2 yX2_keyOf yX2_keyOf, Cond.code yX2_keyOf cX2_keyOf 3 (some .long), Cond.methodLink RX2 99 Lib.Math.min.name, Cond.static Lib.Math.min.name, Cond.code Lib.Math.min.name Lib.Math.min.code 2 (some .int), Cond.methodLink RX2 101 Lib.Math.max.name, Cond.static Lib.Math.max.name, Cond.code Lib.Math.max.name Lib.Math.max.code 2 (some .int), Cond.methodLink RX2 95 yX4_apart, Cond.instanceMethod yX4_apart, Cond.selects RX4 yX4_apart yX4_apart, Cond.code yX4_apart cX4_apart 3 (some .int), Cond.methodLink RX4 33 yX4_squares, Cond.instanceMethod yX4_squares, Cond.selects RX4 yX4_squares yX4_squares, Cond.code yX4_squares cX4_squares 6 (some .int), Cond.methodLink RX2 75 yX2_nextToGrow, Cond.instanceMethod yX2_nextToGrow, Cond.selects RX2 yX2_nextToGrow yX2_nextToGrow, Cond.code yX2_nextToGrow cX2_nextToGrow 4 (some .int), Cond.methodLink RX2 83 yX6_has]
def wsX8_take_r4 : List Cond := [Cond.static yX6_has, Cond.initialized RX6, Cond.code yX6_has cX6_has 2 (some .boolean), Cond.methodLink RX2 79 yX2_putKey, Cond.instanceMethod yX2_putKey, Cond.selects RX2 yX2_putKey yX2_putKey, Cond.code yX2_putKey cX2_putKey 4 none, Cond.fieldLink RX2 22 "ScaleGroups$Order" "keys" "[J", Cond.methodLink RX2 67 yX2_makeJoin, Cond.instanceMethod yX2_makeJoin, Cond.selects RX2 yX2_makeJoin yX2_makeJoin, Cond.code yX2_makeJoin cX2_makeJoin 5 none, Cond.constantLong RX2 104 (31), Cond.fieldLink RX2 26 "ScaleGroups$Order" "aparts" "[I", Cond.fieldLink RX2 30 "ScaleGroups$Order" "roots" "[I", Cond.fieldLink RX2 33 "ScaleGroups$Order" "firsts" "[I", Cond.fieldLink RX2 36 "ScaleGroups$Order" "seconds" "[I", Cond.fieldLink RX2 54 "ScaleGroups$Order" "pairs" "[J", Cond.fieldLink RX2 42 "ScaleGroups$Order" "firstSides" "[I", Cond.fieldLink RX2 45 "ScaleGroups$Order" "otherSides" "[I", Cond.fieldLink RX2 39 "ScaleGroups$Order" "parts" "[I", Cond.fieldLink RX2 48 "ScaleGroups$Order" "joinsAbove" "[I", Cond.methodLink RX2 106 yX6_root, Cond.static yX6_root]
def wsX8_take_r5 : List Cond := [Cond.code yX6_root cX6_root 4 (some .int), Cond.methodLink RX2 109 yX2_placeOf, Cond.instanceMethod yX2_placeOf, Cond.selects RX2 yX2_placeOf yX2_placeOf, Cond.code yX2_placeOf cX2_placeOf 2 (some .long), Cond.fieldLink RX2 120 "ScaleGroups$Points" "xs" "[I", Cond.fieldLink RX2 123 "ScaleGroups$Points" "ys" "[I", Cond.methodLink RX2 113 yX2_setOf, Cond.instanceMethod yX2_setOf, Cond.selects RX2 yX2_setOf yX2_setOf, Cond.code yX2_setOf cX2_setOf 3 (some .int), Cond.methodLink RX2 126 yX2_joinOf, Cond.static yX2_joinOf, Cond.code yX2_joinOf cX2_joinOf 1 (some .int), Cond.methodLink RX2 116 yX2_putBelow, Cond.instanceMethod yX2_putBelow, Cond.selects RX2 yX2_putBelow yX2_putBelow, Cond.code yX2_putBelow cX2_putBelow 4 none, Cond.methodLink RX8 95 yX2_countUnlike, Cond.instanceMethod yX2_countUnlike, Cond.selects RX2 yX2_countUnlike yX2_countUnlike, Cond.code yX2_countUnlike cX2_countUnlike 4 (some .int), Cond.methodLink RX2 139 yX2_hasPair, Cond.instanceMethod yX2_hasPair]
def wsX8_take_r6 : List Cond := [Cond.selects RX2 yX2_hasPair yX2_hasPair, Cond.code yX2_hasPair cX2_hasPair 4 (some .boolean)]
def wsX8_take : List Cond := .code yX8_take cX8_take 2 (some .int) :: ((wsX8_take_r1 ++ (wsX8_take_r2 ++ (wsX8_take_r3 ++ (wsX8_take_r4 ++ (wsX8_take_r5 ++ wsX8_take_r6))))) ++ wsX80 ++ wsX20 ++ wsX40)
def wsX8_weigh : List Cond := .code yX8_weigh cX8_weigh 4 (some .int) :: ([.fieldLink RX8 12 "ScaleGroups" "now" "LScaleGroups$Order;", .fieldLink RX8 75 "ScaleGroups$Order" "points" "LScaleGroups$Points;", .fieldLink RX8 106 "ScaleGroups$Points" "ws" "[I", .methodLink RX8 99 yX8_isPoint, .instanceMethod yX8_isPoint, .selects RX8 yX8_isPoint yX8_isPoint, .initialized RX8, .code yX8_isPoint cX8_isPoint 2 (some .boolean), .fieldLink RX8 113 "ScaleGroups$Points" "count" "I", .methodLink RX8 71 yX8_isWeight, .static yX8_isWeight, .code yX8_isWeight cX8_isWeight 1 (some .boolean)] ++ wsX80 ++ wsX20 ++ wsX40)
def wsX8_draw : List Cond := .code yX8_draw cX8_draw 2 (some .int) :: ([.constant RX8 351 (1664525), .fieldLink RX8 68 "ScaleGroups" "drawState" "I", .constant RX8 352 (1013904223)] ++ wsX80)
def wsX8_scatter_r1 : List Cond := [Cond.fieldLink RX8 12 "ScaleGroups" "now" "LScaleGroups$Order;", Cond.fieldLink RX8 75 "ScaleGroups$Order" "points" "LScaleGroups$Points;", Cond.methodLink RX8 85 yX8_startRepair, Cond.instanceMethod yX8_startRepair, Cond.selects RX8 yX8_startRepair yX8_startRepair, Cond.initialized RX8, Cond.code yX8_startRepair cX8_startRepair 2 none, Cond.fieldLink RX8 16 "ScaleGroups" "ahead" "LScaleGroups$Order;", Cond.methodLink RX8 335 yX4_copy, Cond.instanceMethod yX4_copy, Cond.selects RX4 yX4_copy yX4_copy, Cond.initialized RX4, Cond.code yX4_copy cX4_copy 3 none, Cond.fieldLink RX4 9 "ScaleGroups$Points" "count" "I", Cond.fieldLink RX4 15 "ScaleGroups$Points" "xs" "[I", Cond.fieldLink RX4 19 "ScaleGroups$Points" "ys" "[I", Cond.fieldLink RX4 22 "ScaleGroups$Points" "ws" "[I", Cond.methodLink RX8 109 yX8_draw, Cond.instanceMethod yX8_draw, Cond.selects RX8 yX8_draw yX8_draw, Cond.code yX8_draw cX8_draw 2 (some .int), Cond.constant RX8 351 (1664525), Cond.fieldLink RX8 68 "ScaleGroups" "drawState" "I", Cond.constant RX8 352 (1013904223)]
def wsX8_scatter_r2 : List Cond := [Cond.methodLink RX8 79 yX4_canCome, Cond.instanceMethod yX4_canCome, Cond.selects RX4 yX4_canCome yX4_canCome, Cond.code yX4_canCome cX4_canCome 3 (some .boolean), Cond.methodLink RX4 25 yX4_find, Cond.instanceMethod yX4_find, Cond.selects RX4 yX4_find yX4_find, Cond.code yX4_find cX4_find 4 (some .int), Cond.methodLink RX8 88 yX4_put, Cond.instanceMethod yX4_put, Cond.selects RX4 yX4_put yX4_put, Cond.code yX4_put cX4_put 5 none, Cond.methodLink RX4 29 yX4_move, Cond.instanceMethod yX4_move, Cond.selects RX4 yX4_move yX4_move, Cond.code yX4_move cX4_move 3 none, Cond.methodLink RX8 92 yX2_rebuild, Cond.instanceMethod yX2_rebuild, Cond.selects RX2 yX2_rebuild yX2_rebuild, Cond.initialized RX2, Cond.code yX2_rebuild cX2_rebuild 2 none, Cond.fieldLink RX2 12 "ScaleGroups$Order" "points" "LScaleGroups$Points;", Cond.fieldLink RX2 66 "ScaleGroups$Points" "count" "I", Cond.fieldLink RX2 60 "ScaleGroups$Order" "nodes" "[I"]
def wsX8_scatter_r3 : List Cond := [Cond.fieldLink RX2 51 "ScaleGroups$Order" "pointsAbove" "[I", Cond.fieldLink RX2 18 "ScaleGroups$Order" "count" "I", Cond.methodLink RX2 63 yX2_growTree, Cond.instanceMethod yX2_growTree, Cond.selects RX2 yX2_growTree yX2_growTree, Cond.code yX2_growTree cX2_growTree 5 none, Cond.fieldLink RX2 57 "ScaleGroups$Order" "links" "[J", Cond.methodLink RX2 89 Lib.MathLoose.min_long.x, Cond.static Lib.MathLoose.min_long.x, Cond.initialized "java/lang/Math", Cond.code Lib.MathLoose.min_long.x Lib.MathLoose.min_long.code 4 (some .long), Cond.methodLink RX2 71 yX2_keyOf, Cond.instanceMethod yX2_keyOf, Cond.selects RX2 yX2_keyOf yX2_keyOf, Cond.code yX2_keyOf cX2_keyOf 3 (some .long), Cond.methodLink RX2 99 Lib.Math.min.name, Cond.static Lib.Math.min.name, Cond.code Lib.Math.min.name Lib.Math.min.code 2 (some .int), Cond.methodLink RX2 101 Lib.Math.max.name, Cond.static Lib.Math.max.name, Cond.code Lib.Math.max.name Lib.Math.max.code 2 (some .int), Cond.methodLink RX2 95 yX4_apart, Cond.instanceMethod yX4_apart, Cond.selects RX4 yX4_apart yX4_apart]
def wsX8_scatter_r4 : List Cond := [Cond.code yX4_apart cX4_apart 3 (some .int), Cond.methodLink RX4 33 yX4_squares, Cond.instanceMethod yX4_squares, Cond.selects RX4 yX4_squares yX4_squares, Cond.code yX4_squares cX4_squares 6 (some .int), Cond.methodLink RX2 75 yX2_nextToGrow, Cond.instanceMethod yX2_nextToGrow, Cond.selects RX2 yX2_nextToGrow yX2_nextToGrow, Cond.code yX2_nextToGrow cX2_nextToGrow 4 (some .int), Cond.methodLink RX2 83 yX6_has, Cond.static yX6_has, Cond.initialized RX6, Cond.code yX6_has cX6_has 2 (some .boolean), Cond.methodLink RX2 79 yX2_putKey, Cond.instanceMethod yX2_putKey, Cond.selects RX2 yX2_putKey yX2_putKey, Cond.code yX2_putKey cX2_putKey 4 none, Cond.fieldLink RX2 22 "ScaleGroups$Order" "keys" "[J", Cond.methodLink RX2 67 yX2_makeJoin, Cond.instanceMethod yX2_makeJoin, Cond.selects RX2 yX2_makeJoin yX2_makeJoin, Cond.code yX2_makeJoin cX2_makeJoin 5 none, Cond.constantLong RX2 104 (31), Cond.fieldLink RX2 26 "ScaleGroups$Order" "aparts" "[I"]
def wsX8_scatter_r5 : List Cond := [Cond.fieldLink RX2 30 "ScaleGroups$Order" "roots" "[I", Cond.fieldLink RX2 33 "ScaleGroups$Order" "firsts" "[I", Cond.fieldLink RX2 36 "ScaleGroups$Order" "seconds" "[I", Cond.fieldLink RX2 54 "ScaleGroups$Order" "pairs" "[J", Cond.fieldLink RX2 42 "ScaleGroups$Order" "firstSides" "[I", Cond.fieldLink RX2 45 "ScaleGroups$Order" "otherSides" "[I", Cond.fieldLink RX2 39 "ScaleGroups$Order" "parts" "[I", Cond.fieldLink RX2 48 "ScaleGroups$Order" "joinsAbove" "[I", Cond.methodLink RX2 106 yX6_root, Cond.static yX6_root, Cond.code yX6_root cX6_root 4 (some .int), Cond.methodLink RX2 109 yX2_placeOf, Cond.instanceMethod yX2_placeOf, Cond.selects RX2 yX2_placeOf yX2_placeOf, Cond.code yX2_placeOf cX2_placeOf 2 (some .long), Cond.fieldLink RX2 120 "ScaleGroups$Points" "xs" "[I", Cond.fieldLink RX2 123 "ScaleGroups$Points" "ys" "[I", Cond.methodLink RX2 113 yX2_setOf, Cond.instanceMethod yX2_setOf, Cond.selects RX2 yX2_setOf yX2_setOf, Cond.code yX2_setOf cX2_setOf 3 (some .int), Cond.methodLink RX2 126 yX2_joinOf, Cond.static yX2_joinOf, Cond.code yX2_joinOf cX2_joinOf 1 (some .int)]
def wsX8_scatter_r6 : List Cond := [Cond.methodLink RX2 116 yX2_putBelow, Cond.instanceMethod yX2_putBelow, Cond.selects RX2 yX2_putBelow yX2_putBelow, Cond.code yX2_putBelow cX2_putBelow 4 none]
def wsX8_scatter : List Cond := .code yX8_scatter cX8_scatter 7 (some .int) :: ((wsX8_scatter_r1 ++ (wsX8_scatter_r2 ++ (wsX8_scatter_r3 ++ (wsX8_scatter_r4 ++ (wsX8_scatter_r5 ++ wsX8_scatter_r6))))) ++ wsX80 ++ wsX20 ++ wsX40)
def wsX8_state : List Cond := .code yX8_state cX8_state 3 (some .int) :: ([.fieldLink RX8 68 "ScaleGroups" "drawState" "I"] ++ wsX80)
def wsX8_clear_r1 : List Cond := [Cond.fieldLink RX8 12 "ScaleGroups" "now" "LScaleGroups$Order;", Cond.fieldLink RX8 75 "ScaleGroups$Order" "points" "LScaleGroups$Points;", Cond.fieldLink RX8 113 "ScaleGroups$Points" "count" "I", Cond.methodLink RX8 85 yX8_startRepair, Cond.instanceMethod yX8_startRepair, Cond.selects RX8 yX8_startRepair yX8_startRepair, Cond.initialized RX8, Cond.code yX8_startRepair cX8_startRepair 2 none, Cond.fieldLink RX8 16 "ScaleGroups" "ahead" "LScaleGroups$Order;", Cond.methodLink RX8 335 yX4_copy, Cond.instanceMethod yX4_copy, Cond.selects RX4 yX4_copy yX4_copy, Cond.initialized RX4, Cond.code yX4_copy cX4_copy 3 none, Cond.fieldLink RX4 9 "ScaleGroups$Points" "count" "I", Cond.fieldLink RX4 15 "ScaleGroups$Points" "xs" "[I", Cond.fieldLink RX4 19 "ScaleGroups$Points" "ys" "[I", Cond.fieldLink RX4 22 "ScaleGroups$Points" "ws" "[I", Cond.methodLink RX8 92 yX2_rebuild, Cond.instanceMethod yX2_rebuild, Cond.selects RX2 yX2_rebuild yX2_rebuild, Cond.initialized RX2, Cond.code yX2_rebuild cX2_rebuild 2 none, Cond.fieldLink RX2 12 "ScaleGroups$Order" "points" "LScaleGroups$Points;"]
def wsX8_clear_r2 : List Cond := [Cond.fieldLink RX2 66 "ScaleGroups$Points" "count" "I", Cond.fieldLink RX2 60 "ScaleGroups$Order" "nodes" "[I", Cond.fieldLink RX2 51 "ScaleGroups$Order" "pointsAbove" "[I", Cond.fieldLink RX2 18 "ScaleGroups$Order" "count" "I", Cond.methodLink RX2 63 yX2_growTree, Cond.instanceMethod yX2_growTree, Cond.selects RX2 yX2_growTree yX2_growTree, Cond.code yX2_growTree cX2_growTree 5 none, Cond.fieldLink RX2 57 "ScaleGroups$Order" "links" "[J", Cond.methodLink RX2 89 Lib.MathLoose.min_long.x, Cond.static Lib.MathLoose.min_long.x, Cond.initialized "java/lang/Math", Cond.code Lib.MathLoose.min_long.x Lib.MathLoose.min_long.code 4 (some .long), Cond.methodLink RX2 71 yX2_keyOf, Cond.instanceMethod yX2_keyOf, Cond.selects RX2 yX2_keyOf yX2_keyOf, Cond.code yX2_keyOf cX2_keyOf 3 (some .long), Cond.methodLink RX2 99 Lib.Math.min.name, Cond.static Lib.Math.min.name, Cond.code Lib.Math.min.name Lib.Math.min.code 2 (some .int), Cond.methodLink RX2 101 Lib.Math.max.name, Cond.static Lib.Math.max.name, Cond.code Lib.Math.max.name Lib.Math.max.code 2 (some .int), Cond.methodLink RX2 95 yX4_apart]
def wsX8_clear_r3 : List Cond := [Cond.instanceMethod yX4_apart, Cond.selects RX4 yX4_apart yX4_apart, Cond.code yX4_apart cX4_apart 3 (some .int), Cond.methodLink RX4 33 yX4_squares, Cond.instanceMethod yX4_squares, Cond.selects RX4 yX4_squares yX4_squares, Cond.code yX4_squares cX4_squares 6 (some .int), Cond.methodLink RX2 75 yX2_nextToGrow, Cond.instanceMethod yX2_nextToGrow, Cond.selects RX2 yX2_nextToGrow yX2_nextToGrow, Cond.code yX2_nextToGrow cX2_nextToGrow 4 (some .int), Cond.methodLink RX2 83 yX6_has, Cond.static yX6_has, Cond.initialized RX6, Cond.code yX6_has cX6_has 2 (some .boolean), Cond.methodLink RX2 79 yX2_putKey, Cond.instanceMethod yX2_putKey, Cond.selects RX2 yX2_putKey yX2_putKey, Cond.code yX2_putKey cX2_putKey 4 none, Cond.fieldLink RX2 22 "ScaleGroups$Order" "keys" "[J", Cond.methodLink RX2 67 yX2_makeJoin, Cond.instanceMethod yX2_makeJoin, Cond.selects RX2 yX2_makeJoin yX2_makeJoin, Cond.code yX2_makeJoin cX2_makeJoin 5 none]
def wsX8_clear_r4 : List Cond := [Cond.constantLong RX2 104 (31), Cond.fieldLink RX2 26 "ScaleGroups$Order" "aparts" "[I", Cond.fieldLink RX2 30 "ScaleGroups$Order" "roots" "[I", Cond.fieldLink RX2 33 "ScaleGroups$Order" "firsts" "[I", Cond.fieldLink RX2 36 "ScaleGroups$Order" "seconds" "[I", Cond.fieldLink RX2 54 "ScaleGroups$Order" "pairs" "[J", Cond.fieldLink RX2 42 "ScaleGroups$Order" "firstSides" "[I", Cond.fieldLink RX2 45 "ScaleGroups$Order" "otherSides" "[I", Cond.fieldLink RX2 39 "ScaleGroups$Order" "parts" "[I", Cond.fieldLink RX2 48 "ScaleGroups$Order" "joinsAbove" "[I", Cond.methodLink RX2 106 yX6_root, Cond.static yX6_root, Cond.code yX6_root cX6_root 4 (some .int), Cond.methodLink RX2 109 yX2_placeOf, Cond.instanceMethod yX2_placeOf, Cond.selects RX2 yX2_placeOf yX2_placeOf, Cond.code yX2_placeOf cX2_placeOf 2 (some .long), Cond.fieldLink RX2 120 "ScaleGroups$Points" "xs" "[I", Cond.fieldLink RX2 123 "ScaleGroups$Points" "ys" "[I", Cond.methodLink RX2 113 yX2_setOf, Cond.instanceMethod yX2_setOf, Cond.selects RX2 yX2_setOf yX2_setOf, Cond.code yX2_setOf cX2_setOf 3 (some .int), Cond.methodLink RX2 126 yX2_joinOf]
def wsX8_clear_r5 : List Cond := [Cond.static yX2_joinOf, Cond.code yX2_joinOf cX2_joinOf 1 (some .int), Cond.methodLink RX2 116 yX2_putBelow, Cond.instanceMethod yX2_putBelow, Cond.selects RX2 yX2_putBelow yX2_putBelow, Cond.code yX2_putBelow cX2_putBelow 4 none]
def wsX8_clear : List Cond := .code yX8_clear cX8_clear 2 (some .int) :: ((wsX8_clear_r1 ++ (wsX8_clear_r2 ++ (wsX8_clear_r3 ++ (wsX8_clear_r4 ++ wsX8_clear_r5)))) ++ wsX80 ++ wsX20 ++ wsX40)
def wsX8_size : List Cond := .code yX8_size cX8_size 3 (some .int) :: ([.fieldLink RX8 64 "ScaleGroups" "labelSize" "I"] ++ wsX80)
def wsX8_point_r1 : List Cond := [Cond.fieldLink RX8 12 "ScaleGroups" "now" "LScaleGroups$Order;", Cond.fieldLink RX8 75 "ScaleGroups$Order" "points" "LScaleGroups$Points;", Cond.fieldLink RX8 116 "ScaleGroups$Points" "xs" "[I", Cond.fieldLink RX8 119 "ScaleGroups$Points" "ys" "[I", Cond.fieldLink RX8 106 "ScaleGroups$Points" "ws" "[I", Cond.methodLink RX8 99 yX8_isPoint, Cond.instanceMethod yX8_isPoint, Cond.selects RX8 yX8_isPoint yX8_isPoint, Cond.initialized RX8, Cond.code yX8_isPoint cX8_isPoint 2 (some .boolean), Cond.fieldLink RX8 113 "ScaleGroups$Points" "count" "I", Cond.methodLink RX8 122 yX4_nearestTo, Cond.instanceMethod yX4_nearestTo, Cond.selects RX4 yX4_nearestTo yX4_nearestTo, Cond.initialized RX4, Cond.code yX4_nearestTo cX4_nearestTo 5 (some .int), Cond.fieldLink RX4 9 "ScaleGroups$Points" "count" "I", Cond.methodLink RX4 37 yX4_apart, Cond.instanceMethod yX4_apart, Cond.selects RX4 yX4_apart yX4_apart, Cond.code yX4_apart cX4_apart 3 (some .int), Cond.fieldLink RX4 15 "ScaleGroups$Points" "xs" "[I", Cond.fieldLink RX4 19 "ScaleGroups$Points" "ys" "[I", Cond.methodLink RX4 33 yX4_squares]
def wsX8_point_r2 : List Cond := [Cond.instanceMethod yX4_squares, Cond.selects RX4 yX4_squares yX4_squares, Cond.code yX4_squares cX4_squares 6 (some .int), Cond.methodLink RX8 125 yX4_apartFromNearest, Cond.instanceMethod yX4_apartFromNearest, Cond.selects RX4 yX4_apartFromNearest yX4_apartFromNearest, Cond.code yX4_apartFromNearest cX4_apartFromNearest 3 (some .int), Cond.methodLink RX4 40 yX4_nearestTo, Cond.methodLink RX8 128 yX2_linksOf, Cond.instanceMethod yX2_linksOf, Cond.selects RX2 yX2_linksOf yX2_linksOf, Cond.initialized RX2, Cond.code yX2_linksOf cX2_linksOf 4 (some .int), Cond.fieldLink RX2 18 "ScaleGroups$Order" "count" "I", Cond.fieldLink RX2 33 "ScaleGroups$Order" "firsts" "[I", Cond.fieldLink RX2 36 "ScaleGroups$Order" "seconds" "[I"]
def wsX8_point : List Cond := .code yX8_point cX8_point 4 (some .int) :: ((wsX8_point_r1 ++ wsX8_point_r2) ++ wsX80 ++ wsX20 ++ wsX40)
def wsX8_at : List Cond := .code yX8_at cX8_at 3 (some .int) :: ([.fieldLink RX8 12 "ScaleGroups" "now" "LScaleGroups$Order;", .fieldLink RX8 75 "ScaleGroups$Order" "points" "LScaleGroups$Points;", .methodLink RX8 131 yX4_find, .instanceMethod yX4_find, .selects RX4 yX4_find yX4_find, .initialized RX4, .code yX4_find cX4_find 4 (some .int), .fieldLink RX4 9 "ScaleGroups$Points" "count" "I", .fieldLink RX4 15 "ScaleGroups$Points" "xs" "[I", .fieldLink RX4 19 "ScaleGroups$Points" "ys" "[I"] ++ wsX80 ++ wsX20 ++ wsX40)
def wsX8_isNearPlace : List Cond := .code yX8_isNearPlace cX8_isNearPlace 1 (some .boolean) :: ([])
def wsX8_rankInRow : List Cond := .code yX8_rankInRow cX8_rankInRow 5 (some .int) :: ([.fieldLink RX8 60 "ScaleGroups" "row" "[I"] ++ wsX80)
def wsX8_near : List Cond := .code yX8_near cX8_near 6 (some .int) :: ([.fieldLink RX8 12 "ScaleGroups" "now" "LScaleGroups$Order;", .fieldLink RX8 75 "ScaleGroups$Order" "points" "LScaleGroups$Points;", .fieldLink RX8 113 "ScaleGroups$Points" "count" "I", .fieldLink RX8 60 "ScaleGroups" "row" "[I", .methodLink RX8 135 yX8_isNearPlace, .static yX8_isNearPlace, .initialized RX8, .code yX8_isNearPlace cX8_isNearPlace 1 (some .boolean), .methodLink RX8 138 yX4_squares, .instanceMethod yX4_squares, .selects RX4 yX4_squares yX4_squares, .initialized RX4, .code yX4_squares cX4_squares 6 (some .int), .fieldLink RX4 15 "ScaleGroups$Points" "xs" "[I", .fieldLink RX4 19 "ScaleGroups$Points" "ys" "[I", .methodLink RX8 142 yX8_rankInRow, .instanceMethod yX8_rankInRow, .selects RX8 yX8_rankInRow yX8_rankInRow, .code yX8_rankInRow cX8_rankInRow 5 (some .int)] ++ wsX80 ++ wsX20 ++ wsX40)
def wsJ6_bitCount_0f7a4 : List Cond := .code yJ6_bitCount_0f7a4 cJ6_bitCount_0f7a4 1 (some .int) :: ([.constant RJ6 265 (1431655765), .constant RJ6 266 (858993459), .constant RJ6 267 (252645135)])
def wsX8_join_r1 : List Cond := [Cond.fieldLink RX8 12 "ScaleGroups" "now" "LScaleGroups$Order;", Cond.fieldLink RX8 145 "ScaleGroups$Order" "count" "I", Cond.fieldLink RX8 146 "ScaleGroups$Order" "aparts" "[I", Cond.fieldLink RX8 149 "ScaleGroups$Order" "firsts" "[I", Cond.fieldLink RX8 152 "ScaleGroups$Order" "seconds" "[I", Cond.fieldLink RX8 155 "ScaleGroups$Order" "parts" "[I", Cond.fieldLink RX8 75 "ScaleGroups$Order" "points" "LScaleGroups$Points;", Cond.fieldLink RX8 166 "ScaleGroups$Order" "firstSides" "[I", Cond.fieldLink RX8 169 "ScaleGroups$Order" "otherSides" "[I", Cond.fieldLink RX8 172 "ScaleGroups$Order" "joinsAbove" "[I", Cond.fieldLink RX8 16 "ScaleGroups" "ahead" "LScaleGroups$Order;", Cond.fieldLink RX8 178 "ScaleGroups$Order" "pairs" "[J", Cond.methodLink RX8 158 yJ6_bitCount_0f7a4, Cond.static yJ6_bitCount_0f7a4, Cond.initialized RJ6, Cond.code yJ6_bitCount_0f7a4 cJ6_bitCount_0f7a4 1 (some .int), Cond.constant RJ6 265 (1431655765), Cond.constant RJ6 266 (858993459), Cond.constant RJ6 267 (252645135), Cond.methodLink RX8 163 yX4_weightOf, Cond.instanceMethod yX4_weightOf, Cond.selects RX4 yX4_weightOf yX4_weightOf, Cond.initialized RX4, Cond.code yX4_weightOf cX4_weightOf 4 (some .int)]
def wsX8_join_r2 : List Cond := [Cond.fieldLink RX4 9 "ScaleGroups$Points" "count" "I", Cond.fieldLink RX4 22 "ScaleGroups$Points" "ws" "[I", Cond.methodLink RX4 44 yX6_has, Cond.static yX6_has, Cond.initialized RX6, Cond.code yX6_has cX6_has 2 (some .boolean), Cond.methodLink RX8 175 yX2_lastsOf, Cond.instanceMethod yX2_lastsOf, Cond.selects RX2 yX2_lastsOf yX2_lastsOf, Cond.initialized RX2, Cond.code yX2_lastsOf cX2_lastsOf 3 (some .int), Cond.fieldLink RX2 39 "ScaleGroups$Order" "parts" "[I", Cond.fieldLink RX2 30 "ScaleGroups$Order" "roots" "[I", Cond.fieldLink RX2 48 "ScaleGroups$Order" "joinsAbove" "[I", Cond.fieldLink RX2 51 "ScaleGroups$Order" "pointsAbove" "[I", Cond.methodLink RX2 126 yX2_joinOf, Cond.static yX2_joinOf, Cond.code yX2_joinOf cX2_joinOf 1 (some .int), Cond.methodLink RX2 129 yX2_weightTill, Cond.instanceMethod yX2_weightTill, Cond.selects RX2 yX2_weightTill yX2_weightTill, Cond.code yX2_weightTill cX2_weightTill 4 (some .int), Cond.fieldLink RX2 18 "ScaleGroups$Order" "count" "I", Cond.fieldLink RX2 12 "ScaleGroups$Order" "points" "LScaleGroups$Points;"]
def wsX8_join_r3 : List Cond := [Cond.methodLink RX2 133 yX4_weightOf, Cond.methodLink RX8 182 yX2_hasPair, Cond.instanceMethod yX2_hasPair, Cond.selects RX2 yX2_hasPair yX2_hasPair, Cond.code yX2_hasPair cX2_hasPair 4 (some .boolean), Cond.fieldLink RX2 54 "ScaleGroups$Order" "pairs" "[J"]
def wsX8_join : List Cond := .code yX8_join cX8_join 3 (some .int) :: ((wsX8_join_r1 ++ (wsX8_join_r2 ++ wsX8_join_r3)) ++ wsX80 ++ wsX20 ++ wsX40)
def wsX8_meets : List Cond := .code yX8_meets cX8_meets 3 (some .int) :: ([.fieldLink RX8 12 "ScaleGroups" "now" "LScaleGroups$Order;", .methodLink RX8 99 yX8_isPoint, .instanceMethod yX8_isPoint, .selects RX8 yX8_isPoint yX8_isPoint, .initialized RX8, .code yX8_isPoint cX8_isPoint 2 (some .boolean), .fieldLink RX8 75 "ScaleGroups$Order" "points" "LScaleGroups$Points;", .fieldLink RX8 113 "ScaleGroups$Points" "count" "I", .methodLink RX8 186 yX2_meeting, .instanceMethod yX2_meeting, .selects RX2 yX2_meeting yX2_meeting, .initialized RX2, .code yX2_meeting cX2_meeting 4 (some .int), .fieldLink RX2 18 "ScaleGroups$Order" "count" "I", .fieldLink RX2 39 "ScaleGroups$Order" "parts" "[I", .methodLink RX2 83 yX6_has, .static yX6_has, .initialized RX6, .code yX6_has cX6_has 2 (some .boolean)] ++ wsX80 ++ wsX20 ++ wsX40)
def wsX8_path_r1 : List Cond := [Cond.fieldLink RX8 49 "ScaleGroups" "ways" "LScaleGroups$Ways;", Cond.fieldLink RX8 12 "ScaleGroups" "now" "LScaleGroups$Order;", Cond.fieldLink RX8 193 "ScaleGroups$Ways" "far" "[[I", Cond.fieldLink RX8 75 "ScaleGroups$Order" "points" "LScaleGroups$Points;", Cond.fieldLink RX8 113 "ScaleGroups$Points" "count" "I", Cond.methodLink RX8 99 yX8_isPoint, Cond.instanceMethod yX8_isPoint, Cond.selects RX8 yX8_isPoint yX8_isPoint, Cond.initialized RX8, Cond.code yX8_isPoint cX8_isPoint 2 (some .boolean), Cond.methodLink RX8 189 yX7_measure, Cond.instanceMethod yX7_measure, Cond.selects RX7 yX7_measure yX7_measure, Cond.initialized RX7, Cond.code yX7_measure cX7_measure 4 none, Cond.fieldLink RX7 16 "ScaleGroups$Order" "points" "LScaleGroups$Points;", Cond.fieldLink RX7 22 "ScaleGroups$Points" "count" "I", Cond.fieldLink RX7 11 "ScaleGroups$Ways" "far" "[[I", Cond.fieldLink RX7 28 "ScaleGroups$Order" "count" "I", Cond.fieldLink RX7 29 "ScaleGroups$Order" "roots" "[I", Cond.methodLink RX7 33 yX7_link, Cond.instanceMethod yX7_link, Cond.selects RX7 yX7_link yX7_link, Cond.code yX7_link cX7_link 10 none]
def wsX8_path_r2 : List Cond := [Cond.fieldLink RX7 37 "ScaleGroups$Order" "firstSides" "[I", Cond.fieldLink RX7 44 "ScaleGroups$Order" "otherSides" "[I", Cond.fieldLink RX7 47 "ScaleGroups$Order" "firsts" "[I", Cond.fieldLink RX7 50 "ScaleGroups$Order" "seconds" "[I", Cond.methodLink RX7 40 yX2_setOf, Cond.instanceMethod yX2_setOf, Cond.selects RX2 yX2_setOf yX2_setOf, Cond.initialized RX2, Cond.code yX2_setOf cX2_setOf 3 (some .int), Cond.fieldLink RX2 39 "ScaleGroups$Order" "parts" "[I", Cond.methodLink RX2 126 yX2_joinOf, Cond.static yX2_joinOf, Cond.code yX2_joinOf cX2_joinOf 1 (some .int), Cond.methodLink RX7 53 yX6_has, Cond.static yX6_has, Cond.initialized RX6, Cond.code yX6_has cX6_has 2 (some .boolean)]
def wsX8_path : List Cond := .code yX8_path cX8_path 6 (some .int) :: ((wsX8_path_r1 ++ wsX8_path_r2) ++ wsX80 ++ wsX70 ++ wsX20 ++ wsX40)
def wsX8_longest_r1 : List Cond := [Cond.fieldLink RX8 12 "ScaleGroups" "now" "LScaleGroups$Order;", Cond.fieldLink RX8 75 "ScaleGroups$Order" "points" "LScaleGroups$Points;", Cond.fieldLink RX8 113 "ScaleGroups$Points" "count" "I", Cond.fieldLink RX8 49 "ScaleGroups" "ways" "LScaleGroups$Ways;", Cond.fieldLink RX8 193 "ScaleGroups$Ways" "far" "[[I", Cond.methodLink RX8 189 yX7_measure, Cond.instanceMethod yX7_measure, Cond.selects RX7 yX7_measure yX7_measure, Cond.initialized RX7, Cond.code yX7_measure cX7_measure 4 none, Cond.fieldLink RX7 16 "ScaleGroups$Order" "points" "LScaleGroups$Points;", Cond.fieldLink RX7 22 "ScaleGroups$Points" "count" "I", Cond.fieldLink RX7 11 "ScaleGroups$Ways" "far" "[[I", Cond.fieldLink RX7 28 "ScaleGroups$Order" "count" "I", Cond.fieldLink RX7 29 "ScaleGroups$Order" "roots" "[I", Cond.methodLink RX7 33 yX7_link, Cond.instanceMethod yX7_link, Cond.selects RX7 yX7_link yX7_link, Cond.code yX7_link cX7_link 10 none, Cond.fieldLink RX7 37 "ScaleGroups$Order" "firstSides" "[I", Cond.fieldLink RX7 44 "ScaleGroups$Order" "otherSides" "[I", Cond.fieldLink RX7 47 "ScaleGroups$Order" "firsts" "[I", Cond.fieldLink RX7 50 "ScaleGroups$Order" "seconds" "[I", Cond.methodLink RX7 40 yX2_setOf]
def wsX8_longest_r2 : List Cond := [Cond.instanceMethod yX2_setOf, Cond.selects RX2 yX2_setOf yX2_setOf, Cond.initialized RX2, Cond.code yX2_setOf cX2_setOf 3 (some .int), Cond.fieldLink RX2 39 "ScaleGroups$Order" "parts" "[I", Cond.methodLink RX2 126 yX2_joinOf, Cond.static yX2_joinOf, Cond.code yX2_joinOf cX2_joinOf 1 (some .int), Cond.methodLink RX7 53 yX6_has, Cond.static yX6_has, Cond.initialized RX6, Cond.code yX6_has cX6_has 2 (some .boolean)]
def wsX8_longest : List Cond := .code yX8_longest cX8_longest 8 (some .int) :: ((wsX8_longest_r1 ++ wsX8_longest_r2) ++ wsX80 ++ wsX20 ++ wsX40 ++ wsX70)
def wsX8_zoom_r1 : List Cond := [Cond.fieldLink RX8 12 "ScaleGroups" "now" "LScaleGroups$Order;", Cond.fieldLink RX8 145 "ScaleGroups$Order" "count" "I", Cond.methodLink RX8 197 yX8_meets, Cond.instanceMethod yX8_meets, Cond.selects RX8 yX8_meets yX8_meets, Cond.initialized RX8, Cond.code yX8_meets cX8_meets 3 (some .int), Cond.methodLink RX8 99 yX8_isPoint, Cond.instanceMethod yX8_isPoint, Cond.selects RX8 yX8_isPoint yX8_isPoint, Cond.code yX8_isPoint cX8_isPoint 2 (some .boolean), Cond.fieldLink RX8 75 "ScaleGroups$Order" "points" "LScaleGroups$Points;", Cond.fieldLink RX8 113 "ScaleGroups$Points" "count" "I", Cond.methodLink RX8 186 yX2_meeting, Cond.instanceMethod yX2_meeting, Cond.selects RX2 yX2_meeting yX2_meeting, Cond.initialized RX2, Cond.code yX2_meeting cX2_meeting 4 (some .int), Cond.fieldLink RX2 18 "ScaleGroups$Order" "count" "I", Cond.fieldLink RX2 39 "ScaleGroups$Order" "parts" "[I", Cond.methodLink RX2 83 yX6_has, Cond.static yX6_has, Cond.initialized RX6, Cond.code yX6_has cX6_has 2 (some .boolean)]
def wsX8_zoom_r2 : List Cond := [Cond.methodLink RX8 200 yX2_joinsWithin, Cond.instanceMethod yX2_joinsWithin, Cond.selects RX2 yX2_joinsWithin yX2_joinsWithin, Cond.code yX2_joinsWithin cX2_joinsWithin 4 (some .int), Cond.fieldLink RX2 26 "ScaleGroups$Order" "aparts" "[I"]
def wsX8_zoom : List Cond := .code yX8_zoom cX8_zoom 5 (some .int) :: ((wsX8_zoom_r1 ++ wsX8_zoom_r2) ++ wsX80 ++ wsX20 ++ wsX40)
def wsX8_isZoom : List Cond := .code yX8_isZoom cX8_isZoom 1 (some .boolean) :: ([])
def wsX8_groups : List Cond := .code yX8_groups cX8_groups 2 (some .int) :: ([.fieldLink RX8 12 "ScaleGroups" "now" "LScaleGroups$Order;", .fieldLink RX8 75 "ScaleGroups$Order" "points" "LScaleGroups$Points;", .fieldLink RX8 113 "ScaleGroups$Points" "count" "I", .methodLink RX8 203 yX8_isZoom, .static yX8_isZoom, .initialized RX8, .code yX8_isZoom cX8_isZoom 1 (some .boolean), .methodLink RX8 200 yX2_joinsWithin, .instanceMethod yX2_joinsWithin, .selects RX2 yX2_joinsWithin yX2_joinsWithin, .initialized RX2, .code yX2_joinsWithin cX2_joinsWithin 4 (some .int), .fieldLink RX2 18 "ScaleGroups$Order" "count" "I", .fieldLink RX2 26 "ScaleGroups$Order" "aparts" "[I"] ++ wsX80 ++ wsX20 ++ wsX40)
def wsX8_groupOf_r1 : List Cond := [Cond.fieldLink RX8 25 "ScaleGroups" "scale" "LScaleGroups$Scale;", Cond.fieldLink RX8 12 "ScaleGroups" "now" "LScaleGroups$Order;", Cond.fieldLink RX8 210 "ScaleGroups$Scale" "groupAt" "[I", Cond.methodLink RX8 203 yX8_isZoom, Cond.static yX8_isZoom, Cond.initialized RX8, Cond.code yX8_isZoom cX8_isZoom 1 (some .boolean), Cond.methodLink RX8 99 yX8_isPoint, Cond.instanceMethod yX8_isPoint, Cond.selects RX8 yX8_isPoint yX8_isPoint, Cond.code yX8_isPoint cX8_isPoint 2 (some .boolean), Cond.fieldLink RX8 75 "ScaleGroups$Order" "points" "LScaleGroups$Points;", Cond.fieldLink RX8 113 "ScaleGroups$Points" "count" "I", Cond.methodLink RX8 206 yX5_cut, Cond.instanceMethod yX5_cut, Cond.selects RX5 yX5_cut yX5_cut, Cond.initialized RX5, Cond.code yX5_cut cX5_cut 6 none, Cond.fieldLink RX5 9 "ScaleGroups$Scale" "count" "I", Cond.fieldLink RX5 37 "ScaleGroups$Order" "points" "LScaleGroups$Points;", Cond.fieldLink RX5 41 "ScaleGroups$Points" "count" "I", Cond.fieldLink RX5 15 "ScaleGroups$Scale" "sets" "[I", Cond.methodLink RX5 31 yX2_joinsWithin, Cond.instanceMethod yX2_joinsWithin]
def wsX8_groupOf_r2 : List Cond := [Cond.selects RX2 yX2_joinsWithin yX2_joinsWithin, Cond.initialized RX2, Cond.code yX2_joinsWithin cX2_joinsWithin 4 (some .int), Cond.fieldLink RX2 18 "ScaleGroups$Order" "count" "I", Cond.fieldLink RX2 26 "ScaleGroups$Order" "aparts" "[I", Cond.methodLink RX5 44 yX6_has, Cond.static yX6_has, Cond.initialized RX6, Cond.code yX6_has cX6_has 2 (some .boolean), Cond.methodLink RX5 50 yX2_partOf, Cond.instanceMethod yX2_partOf, Cond.selects RX2 yX2_partOf yX2_partOf, Cond.code yX2_partOf cX2_partOf 4 (some .int), Cond.methodLink RX2 99 Lib.Math.min.name, Cond.static Lib.Math.min.name, Cond.initialized "java/lang/Math", Cond.code Lib.Math.min.name Lib.Math.min.code 2 (some .int), Cond.fieldLink RX2 39 "ScaleGroups$Order" "parts" "[I", Cond.methodLink RX2 83 yX6_has, Cond.methodLink RX5 54 yX5_gather, Cond.instanceMethod yX5_gather, Cond.selects RX5 yX5_gather yX5_gather, Cond.code yX5_gather cX5_gather 7 none, Cond.fieldLink RX5 28 "ScaleGroups$Scale" "groupAt" "[I"]
def wsX8_groupOf_r3 : List Cond := [Cond.fieldLink RX5 58 "ScaleGroups$Points" "ws" "[I", Cond.fieldLink RX5 61 "ScaleGroups$Points" "xs" "[I", Cond.fieldLink RX5 62 "ScaleGroups$Points" "ys" "[I", Cond.fieldLink RX5 19 "ScaleGroups$Scale" "weights" "[I", Cond.fieldLink RX5 22 "ScaleGroups$Scale" "xs" "[I", Cond.fieldLink RX5 25 "ScaleGroups$Scale" "ys" "[I"]
def wsX8_groupOf : List Cond := .code yX8_groupOf cX8_groupOf 3 (some .int) :: ((wsX8_groupOf_r1 ++ (wsX8_groupOf_r2 ++ wsX8_groupOf_r3)) ++ wsX80 ++ wsX50 ++ wsX20 ++ wsX40)
def wsX8_cutsGroup_r1 : List Cond := [Cond.fieldLink RX8 25 "ScaleGroups" "scale" "LScaleGroups$Scale;", Cond.fieldLink RX8 12 "ScaleGroups" "now" "LScaleGroups$Order;", Cond.fieldLink RX8 283 "ScaleGroups$Scale" "count" "I", Cond.methodLink RX8 203 yX8_isZoom, Cond.static yX8_isZoom, Cond.initialized RX8, Cond.code yX8_isZoom cX8_isZoom 1 (some .boolean), Cond.methodLink RX8 206 yX5_cut, Cond.instanceMethod yX5_cut, Cond.selects RX5 yX5_cut yX5_cut, Cond.initialized RX5, Cond.code yX5_cut cX5_cut 6 none, Cond.fieldLink RX5 9 "ScaleGroups$Scale" "count" "I", Cond.fieldLink RX5 37 "ScaleGroups$Order" "points" "LScaleGroups$Points;", Cond.fieldLink RX5 41 "ScaleGroups$Points" "count" "I", Cond.fieldLink RX5 15 "ScaleGroups$Scale" "sets" "[I", Cond.methodLink RX5 31 yX2_joinsWithin, Cond.instanceMethod yX2_joinsWithin, Cond.selects RX2 yX2_joinsWithin yX2_joinsWithin, Cond.initialized RX2, Cond.code yX2_joinsWithin cX2_joinsWithin 4 (some .int), Cond.fieldLink RX2 18 "ScaleGroups$Order" "count" "I", Cond.fieldLink RX2 26 "ScaleGroups$Order" "aparts" "[I", Cond.methodLink RX5 44 yX6_has]
def wsX8_cutsGroup_r2 : List Cond := [Cond.static yX6_has, Cond.initialized RX6, Cond.code yX6_has cX6_has 2 (some .boolean), Cond.methodLink RX5 50 yX2_partOf, Cond.instanceMethod yX2_partOf, Cond.selects RX2 yX2_partOf yX2_partOf, Cond.code yX2_partOf cX2_partOf 4 (some .int), Cond.methodLink RX2 99 Lib.Math.min.name, Cond.static Lib.Math.min.name, Cond.initialized "java/lang/Math", Cond.code Lib.Math.min.name Lib.Math.min.code 2 (some .int), Cond.fieldLink RX2 39 "ScaleGroups$Order" "parts" "[I", Cond.methodLink RX2 83 yX6_has, Cond.methodLink RX5 54 yX5_gather, Cond.instanceMethod yX5_gather, Cond.selects RX5 yX5_gather yX5_gather, Cond.code yX5_gather cX5_gather 7 none, Cond.fieldLink RX5 28 "ScaleGroups$Scale" "groupAt" "[I", Cond.fieldLink RX5 58 "ScaleGroups$Points" "ws" "[I", Cond.fieldLink RX5 61 "ScaleGroups$Points" "xs" "[I", Cond.fieldLink RX5 62 "ScaleGroups$Points" "ys" "[I", Cond.fieldLink RX5 19 "ScaleGroups$Scale" "weights" "[I", Cond.fieldLink RX5 22 "ScaleGroups$Scale" "xs" "[I", Cond.fieldLink RX5 25 "ScaleGroups$Scale" "ys" "[I"]
def wsX8_cutsGroup : List Cond := .code yX8_cutsGroup cX8_cutsGroup 3 (some .boolean) :: ((wsX8_cutsGroup_r1 ++ wsX8_cutsGroup_r2) ++ wsX80 ++ wsX50 ++ wsX20 ++ wsX40)
def wsX8_countSplits_r1 : List Cond := [Cond.fieldLink RX8 29 "ScaleGroups" "other" "LScaleGroups$Scale;", Cond.fieldLink RX8 12 "ScaleGroups" "now" "LScaleGroups$Order;", Cond.methodLink RX8 206 yX5_cut, Cond.instanceMethod yX5_cut, Cond.selects RX5 yX5_cut yX5_cut, Cond.initialized RX5, Cond.code yX5_cut cX5_cut 6 none, Cond.fieldLink RX5 9 "ScaleGroups$Scale" "count" "I", Cond.fieldLink RX5 37 "ScaleGroups$Order" "points" "LScaleGroups$Points;", Cond.fieldLink RX5 41 "ScaleGroups$Points" "count" "I", Cond.fieldLink RX5 15 "ScaleGroups$Scale" "sets" "[I", Cond.methodLink RX5 31 yX2_joinsWithin, Cond.instanceMethod yX2_joinsWithin, Cond.selects RX2 yX2_joinsWithin yX2_joinsWithin, Cond.initialized RX2, Cond.code yX2_joinsWithin cX2_joinsWithin 4 (some .int), Cond.fieldLink RX2 18 "ScaleGroups$Order" "count" "I", Cond.fieldLink RX2 26 "ScaleGroups$Order" "aparts" "[I", Cond.methodLink RX5 44 yX6_has, Cond.static yX6_has, Cond.initialized RX6, Cond.code yX6_has cX6_has 2 (some .boolean), Cond.methodLink RX5 50 yX2_partOf, Cond.instanceMethod yX2_partOf]
def wsX8_countSplits_r2 : List Cond := [Cond.selects RX2 yX2_partOf yX2_partOf, Cond.code yX2_partOf cX2_partOf 4 (some .int), Cond.methodLink RX2 99 Lib.Math.min.name, Cond.static Lib.Math.min.name, Cond.initialized "java/lang/Math", Cond.code Lib.Math.min.name Lib.Math.min.code 2 (some .int), Cond.fieldLink RX2 39 "ScaleGroups$Order" "parts" "[I", Cond.methodLink RX2 83 yX6_has, Cond.methodLink RX5 54 yX5_gather, Cond.instanceMethod yX5_gather, Cond.selects RX5 yX5_gather yX5_gather, Cond.code yX5_gather cX5_gather 7 none, Cond.fieldLink RX5 28 "ScaleGroups$Scale" "groupAt" "[I", Cond.fieldLink RX5 58 "ScaleGroups$Points" "ws" "[I", Cond.fieldLink RX5 61 "ScaleGroups$Points" "xs" "[I", Cond.fieldLink RX5 62 "ScaleGroups$Points" "ys" "[I", Cond.fieldLink RX5 19 "ScaleGroups$Scale" "weights" "[I", Cond.fieldLink RX5 22 "ScaleGroups$Scale" "xs" "[I", Cond.fieldLink RX5 25 "ScaleGroups$Scale" "ys" "[I", Cond.methodLink RX8 251 yX5_groupsWithin, Cond.instanceMethod yX5_groupsWithin, Cond.selects RX5 yX5_groupsWithin yX5_groupsWithin, Cond.code yX5_groupsWithin cX5_groupsWithin 4 (some .int), Cond.methodLink RX8 158 yJ6_bitCount_0f7a4]
def wsX8_countSplits_r3 : List Cond := [Cond.static yJ6_bitCount_0f7a4, Cond.initialized RJ6, Cond.code yJ6_bitCount_0f7a4 cJ6_bitCount_0f7a4 1 (some .int), Cond.constant RJ6 265 (1431655765), Cond.constant RJ6 266 (858993459), Cond.constant RJ6 267 (252645135)]
def wsX8_countSplits : List Cond := .code yX8_countSplits cX8_countSplits 3 (some .int) :: ((wsX8_countSplits_r1 ++ (wsX8_countSplits_r2 ++ wsX8_countSplits_r3)) ++ wsX80 ++ wsX50 ++ wsX20 ++ wsX40)
def wsX8_group_r1 : List Cond := [Cond.fieldLink RX8 12 "ScaleGroups" "now" "LScaleGroups$Order;", Cond.fieldLink RX8 75 "ScaleGroups$Order" "points" "LScaleGroups$Points;", Cond.fieldLink RX8 25 "ScaleGroups" "scale" "LScaleGroups$Scale;", Cond.fieldLink RX8 216 "ScaleGroups$Scale" "sets" "[I", Cond.fieldLink RX8 224 "ScaleGroups$Scale" "weights" "[I", Cond.fieldLink RX8 116 "ScaleGroups$Points" "xs" "[I", Cond.fieldLink RX8 119 "ScaleGroups$Points" "ys" "[I", Cond.fieldLink RX8 234 "ScaleGroups$Scale" "xs" "[I", Cond.fieldLink RX8 235 "ScaleGroups$Scale" "ys" "[I", Cond.methodLink RX8 213 yX8_cutsGroup, Cond.instanceMethod yX8_cutsGroup, Cond.selects RX8 yX8_cutsGroup yX8_cutsGroup, Cond.initialized RX8, Cond.code yX8_cutsGroup cX8_cutsGroup 3 (some .boolean), Cond.fieldLink RX8 283 "ScaleGroups$Scale" "count" "I", Cond.methodLink RX8 203 yX8_isZoom, Cond.static yX8_isZoom, Cond.code yX8_isZoom cX8_isZoom 1 (some .boolean), Cond.methodLink RX8 206 yX5_cut, Cond.instanceMethod yX5_cut, Cond.selects RX5 yX5_cut yX5_cut, Cond.initialized RX5, Cond.code yX5_cut cX5_cut 6 none, Cond.fieldLink RX5 9 "ScaleGroups$Scale" "count" "I"]
def wsX8_group_r2 : List Cond := [Cond.fieldLink RX5 37 "ScaleGroups$Order" "points" "LScaleGroups$Points;", Cond.fieldLink RX5 41 "ScaleGroups$Points" "count" "I", Cond.fieldLink RX5 15 "ScaleGroups$Scale" "sets" "[I", Cond.methodLink RX5 31 yX2_joinsWithin, Cond.instanceMethod yX2_joinsWithin, Cond.selects RX2 yX2_joinsWithin yX2_joinsWithin, Cond.initialized RX2, Cond.code yX2_joinsWithin cX2_joinsWithin 4 (some .int), Cond.fieldLink RX2 18 "ScaleGroups$Order" "count" "I", Cond.fieldLink RX2 26 "ScaleGroups$Order" "aparts" "[I", Cond.methodLink RX5 44 yX6_has, Cond.static yX6_has, Cond.initialized RX6, Cond.code yX6_has cX6_has 2 (some .boolean), Cond.methodLink RX5 50 yX2_partOf, Cond.instanceMethod yX2_partOf, Cond.selects RX2 yX2_partOf yX2_partOf, Cond.code yX2_partOf cX2_partOf 4 (some .int), Cond.methodLink RX2 99 Lib.Math.min.name, Cond.static Lib.Math.min.name, Cond.initialized "java/lang/Math", Cond.code Lib.Math.min.name Lib.Math.min.code 2 (some .int), Cond.fieldLink RX2 39 "ScaleGroups$Order" "parts" "[I", Cond.methodLink RX2 83 yX6_has]
def wsX8_group_r3 : List Cond := [Cond.methodLink RX5 54 yX5_gather, Cond.instanceMethod yX5_gather, Cond.selects RX5 yX5_gather yX5_gather, Cond.code yX5_gather cX5_gather 7 none, Cond.fieldLink RX5 28 "ScaleGroups$Scale" "groupAt" "[I", Cond.fieldLink RX5 58 "ScaleGroups$Points" "ws" "[I", Cond.fieldLink RX5 61 "ScaleGroups$Points" "xs" "[I", Cond.fieldLink RX5 62 "ScaleGroups$Points" "ys" "[I", Cond.fieldLink RX5 19 "ScaleGroups$Scale" "weights" "[I", Cond.fieldLink RX5 22 "ScaleGroups$Scale" "xs" "[I", Cond.fieldLink RX5 25 "ScaleGroups$Scale" "ys" "[I", Cond.methodLink RX8 219 yX6_least, Cond.static yX6_least, Cond.code yX6_least cX6_least 1 (some .int), Cond.methodLink RX6 9 yX6_nth, Cond.static yX6_nth, Cond.code yX6_nth cX6_nth 4 (some .int), Cond.methodLink RX6 15 yX6_has, Cond.methodLink RX8 158 yJ6_bitCount_0f7a4, Cond.static yJ6_bitCount_0f7a4, Cond.initialized RJ6, Cond.code yJ6_bitCount_0f7a4 cJ6_bitCount_0f7a4 1 (some .int), Cond.constant RJ6 265 (1431655765), Cond.constant RJ6 266 (858993459)]
def wsX8_group_r4 : List Cond := [Cond.constant RJ6 267 (252645135), Cond.methodLink RX8 227 yX6_lowest, Cond.static yX6_lowest, Cond.code yX6_lowest cX6_lowest 4 (some .int), Cond.methodLink RX6 19 Lib.Math.min.name, Cond.methodLink RX8 231 yX6_highest, Cond.static yX6_highest, Cond.code yX6_highest cX6_highest 4 (some .int), Cond.methodLink RX6 24 Lib.Math.max.name, Cond.static Lib.Math.max.name, Cond.code Lib.Math.max.name Lib.Math.max.code 2 (some .int), Cond.methodLink RX8 236 yX4_heaviestOf, Cond.instanceMethod yX4_heaviestOf, Cond.selects RX4 yX4_heaviestOf yX4_heaviestOf, Cond.initialized RX4, Cond.code yX4_heaviestOf cX4_heaviestOf 5 (some .int), Cond.fieldLink RX4 9 "ScaleGroups$Points" "count" "I", Cond.fieldLink RX4 22 "ScaleGroups$Points" "ws" "[I", Cond.methodLink RX4 44 yX6_has, Cond.methodLink RX8 239 yX2_makerOf, Cond.instanceMethod yX2_makerOf, Cond.selects RX2 yX2_makerOf yX2_makerOf, Cond.code yX2_makerOf cX2_makerOf 3 (some .int), Cond.methodLink RX8 242 yX8_countSplits]
def wsX8_group_r5 : List Cond := [Cond.instanceMethod yX8_countSplits, Cond.selects RX8 yX8_countSplits yX8_countSplits, Cond.code yX8_countSplits cX8_countSplits 3 (some .int), Cond.fieldLink RX8 29 "ScaleGroups" "other" "LScaleGroups$Scale;", Cond.methodLink RX8 251 yX5_groupsWithin, Cond.instanceMethod yX5_groupsWithin, Cond.selects RX5 yX5_groupsWithin yX5_groupsWithin, Cond.code yX5_groupsWithin cX5_groupsWithin 4 (some .int), Cond.methodLink RX8 245 yX4_wide, Cond.instanceMethod yX4_wide, Cond.selects RX4 yX4_wide yX4_wide, Cond.code yX4_wide cX4_wide 5 (some .int), Cond.methodLink RX4 50 Lib.Math.max.name, Cond.methodLink RX4 37 yX4_apart, Cond.instanceMethod yX4_apart, Cond.selects RX4 yX4_apart yX4_apart, Cond.code yX4_apart cX4_apart 3 (some .int), Cond.fieldLink RX4 15 "ScaleGroups$Points" "xs" "[I", Cond.fieldLink RX4 19 "ScaleGroups$Points" "ys" "[I", Cond.methodLink RX4 33 yX4_squares, Cond.instanceMethod yX4_squares, Cond.selects RX4 yX4_squares yX4_squares, Cond.code yX4_squares cX4_squares 6 (some .int)]
def wsX8_group : List Cond := .code yX8_group cX8_group 6 (some .int) :: ((wsX8_group_r1 ++ (wsX8_group_r2 ++ (wsX8_group_r3 ++ (wsX8_group_r4 ++ wsX8_group_r5)))) ++ wsX80 ++ wsX20 ++ wsX50 ++ wsX40)
def wsX8_member_r1 : List Cond := [Cond.fieldLink RX8 25 "ScaleGroups" "scale" "LScaleGroups$Scale;", Cond.fieldLink RX8 216 "ScaleGroups$Scale" "sets" "[I", Cond.methodLink RX8 213 yX8_cutsGroup, Cond.instanceMethod yX8_cutsGroup, Cond.selects RX8 yX8_cutsGroup yX8_cutsGroup, Cond.initialized RX8, Cond.code yX8_cutsGroup cX8_cutsGroup 3 (some .boolean), Cond.fieldLink RX8 12 "ScaleGroups" "now" "LScaleGroups$Order;", Cond.fieldLink RX8 283 "ScaleGroups$Scale" "count" "I", Cond.methodLink RX8 203 yX8_isZoom, Cond.static yX8_isZoom, Cond.code yX8_isZoom cX8_isZoom 1 (some .boolean), Cond.methodLink RX8 206 yX5_cut, Cond.instanceMethod yX5_cut, Cond.selects RX5 yX5_cut yX5_cut, Cond.initialized RX5, Cond.code yX5_cut cX5_cut 6 none, Cond.fieldLink RX5 9 "ScaleGroups$Scale" "count" "I", Cond.fieldLink RX5 37 "ScaleGroups$Order" "points" "LScaleGroups$Points;", Cond.fieldLink RX5 41 "ScaleGroups$Points" "count" "I", Cond.fieldLink RX5 15 "ScaleGroups$Scale" "sets" "[I", Cond.methodLink RX5 31 yX2_joinsWithin, Cond.instanceMethod yX2_joinsWithin, Cond.selects RX2 yX2_joinsWithin yX2_joinsWithin]
def wsX8_member_r2 : List Cond := [Cond.initialized RX2, Cond.code yX2_joinsWithin cX2_joinsWithin 4 (some .int), Cond.fieldLink RX2 18 "ScaleGroups$Order" "count" "I", Cond.fieldLink RX2 26 "ScaleGroups$Order" "aparts" "[I", Cond.methodLink RX5 44 yX6_has, Cond.static yX6_has, Cond.initialized RX6, Cond.code yX6_has cX6_has 2 (some .boolean), Cond.methodLink RX5 50 yX2_partOf, Cond.instanceMethod yX2_partOf, Cond.selects RX2 yX2_partOf yX2_partOf, Cond.code yX2_partOf cX2_partOf 4 (some .int), Cond.methodLink RX2 99 Lib.Math.min.name, Cond.static Lib.Math.min.name, Cond.initialized "java/lang/Math", Cond.code Lib.Math.min.name Lib.Math.min.code 2 (some .int), Cond.fieldLink RX2 39 "ScaleGroups$Order" "parts" "[I", Cond.methodLink RX2 83 yX6_has, Cond.methodLink RX5 54 yX5_gather, Cond.instanceMethod yX5_gather, Cond.selects RX5 yX5_gather yX5_gather, Cond.code yX5_gather cX5_gather 7 none, Cond.fieldLink RX5 28 "ScaleGroups$Scale" "groupAt" "[I", Cond.fieldLink RX5 58 "ScaleGroups$Points" "ws" "[I"]
def wsX8_member_r3 : List Cond := [Cond.fieldLink RX5 61 "ScaleGroups$Points" "xs" "[I", Cond.fieldLink RX5 62 "ScaleGroups$Points" "ys" "[I", Cond.fieldLink RX5 19 "ScaleGroups$Scale" "weights" "[I", Cond.fieldLink RX5 22 "ScaleGroups$Scale" "xs" "[I", Cond.fieldLink RX5 25 "ScaleGroups$Scale" "ys" "[I", Cond.methodLink RX8 248 yX6_nth, Cond.static yX6_nth, Cond.code yX6_nth cX6_nth 4 (some .int), Cond.methodLink RX6 15 yX6_has]
def wsX8_member : List Cond := .code yX8_member cX8_member 4 (some .int) :: ((wsX8_member_r1 ++ (wsX8_member_r2 ++ wsX8_member_r3)) ++ wsX80 ++ wsX50 ++ wsX20 ++ wsX40)
def wsX8_splits_r1 : List Cond := [Cond.fieldLink RX8 29 "ScaleGroups" "other" "LScaleGroups$Scale;", Cond.fieldLink RX8 12 "ScaleGroups" "now" "LScaleGroups$Order;", Cond.fieldLink RX8 25 "ScaleGroups" "scale" "LScaleGroups$Scale;", Cond.fieldLink RX8 216 "ScaleGroups$Scale" "sets" "[I", Cond.methodLink RX8 213 yX8_cutsGroup, Cond.instanceMethod yX8_cutsGroup, Cond.selects RX8 yX8_cutsGroup yX8_cutsGroup, Cond.initialized RX8, Cond.code yX8_cutsGroup cX8_cutsGroup 3 (some .boolean), Cond.fieldLink RX8 283 "ScaleGroups$Scale" "count" "I", Cond.methodLink RX8 203 yX8_isZoom, Cond.static yX8_isZoom, Cond.code yX8_isZoom cX8_isZoom 1 (some .boolean), Cond.methodLink RX8 206 yX5_cut, Cond.instanceMethod yX5_cut, Cond.selects RX5 yX5_cut yX5_cut, Cond.initialized RX5, Cond.code yX5_cut cX5_cut 6 none, Cond.fieldLink RX5 9 "ScaleGroups$Scale" "count" "I", Cond.fieldLink RX5 37 "ScaleGroups$Order" "points" "LScaleGroups$Points;", Cond.fieldLink RX5 41 "ScaleGroups$Points" "count" "I", Cond.fieldLink RX5 15 "ScaleGroups$Scale" "sets" "[I", Cond.methodLink RX5 31 yX2_joinsWithin, Cond.instanceMethod yX2_joinsWithin]
def wsX8_splits_r2 : List Cond := [Cond.selects RX2 yX2_joinsWithin yX2_joinsWithin, Cond.initialized RX2, Cond.code yX2_joinsWithin cX2_joinsWithin 4 (some .int), Cond.fieldLink RX2 18 "ScaleGroups$Order" "count" "I", Cond.fieldLink RX2 26 "ScaleGroups$Order" "aparts" "[I", Cond.methodLink RX5 44 yX6_has, Cond.static yX6_has, Cond.initialized RX6, Cond.code yX6_has cX6_has 2 (some .boolean), Cond.methodLink RX5 50 yX2_partOf, Cond.instanceMethod yX2_partOf, Cond.selects RX2 yX2_partOf yX2_partOf, Cond.code yX2_partOf cX2_partOf 4 (some .int), Cond.methodLink RX2 99 Lib.Math.min.name, Cond.static Lib.Math.min.name, Cond.initialized "java/lang/Math", Cond.code Lib.Math.min.name Lib.Math.min.code 2 (some .int), Cond.fieldLink RX2 39 "ScaleGroups$Order" "parts" "[I", Cond.methodLink RX2 83 yX6_has, Cond.methodLink RX5 54 yX5_gather, Cond.instanceMethod yX5_gather, Cond.selects RX5 yX5_gather yX5_gather, Cond.code yX5_gather cX5_gather 7 none, Cond.fieldLink RX5 28 "ScaleGroups$Scale" "groupAt" "[I"]
def wsX8_splits_r3 : List Cond := [Cond.fieldLink RX5 58 "ScaleGroups$Points" "ws" "[I", Cond.fieldLink RX5 61 "ScaleGroups$Points" "xs" "[I", Cond.fieldLink RX5 62 "ScaleGroups$Points" "ys" "[I", Cond.fieldLink RX5 19 "ScaleGroups$Scale" "weights" "[I", Cond.fieldLink RX5 22 "ScaleGroups$Scale" "xs" "[I", Cond.fieldLink RX5 25 "ScaleGroups$Scale" "ys" "[I", Cond.methodLink RX8 251 yX5_groupsWithin, Cond.instanceMethod yX5_groupsWithin, Cond.selects RX5 yX5_groupsWithin yX5_groupsWithin, Cond.code yX5_groupsWithin cX5_groupsWithin 4 (some .int), Cond.methodLink RX8 248 yX6_nth, Cond.static yX6_nth, Cond.code yX6_nth cX6_nth 4 (some .int), Cond.methodLink RX6 15 yX6_has]
def wsX8_splits : List Cond := .code yX8_splits cX8_splits 4 (some .int) :: ((wsX8_splits_r1 ++ (wsX8_splits_r2 ++ wsX8_splits_r3)) ++ wsX80 ++ wsX50 ++ wsX20 ++ wsX40)
def wsX8_window_r1 : List Cond := [Cond.fieldLink RX8 25 "ScaleGroups" "scale" "LScaleGroups$Scale;", Cond.fieldLink RX8 12 "ScaleGroups" "now" "LScaleGroups$Order;", Cond.fieldLink RX8 75 "ScaleGroups$Order" "points" "LScaleGroups$Points;", Cond.methodLink RX8 203 yX8_isZoom, Cond.static yX8_isZoom, Cond.initialized RX8, Cond.code yX8_isZoom cX8_isZoom 1 (some .boolean), Cond.methodLink RX8 206 yX5_cut, Cond.instanceMethod yX5_cut, Cond.selects RX5 yX5_cut yX5_cut, Cond.initialized RX5, Cond.code yX5_cut cX5_cut 6 none, Cond.fieldLink RX5 9 "ScaleGroups$Scale" "count" "I", Cond.fieldLink RX5 37 "ScaleGroups$Order" "points" "LScaleGroups$Points;", Cond.fieldLink RX5 41 "ScaleGroups$Points" "count" "I", Cond.fieldLink RX5 15 "ScaleGroups$Scale" "sets" "[I", Cond.methodLink RX5 31 yX2_joinsWithin, Cond.instanceMethod yX2_joinsWithin, Cond.selects RX2 yX2_joinsWithin yX2_joinsWithin, Cond.initialized RX2, Cond.code yX2_joinsWithin cX2_joinsWithin 4 (some .int), Cond.fieldLink RX2 18 "ScaleGroups$Order" "count" "I", Cond.fieldLink RX2 26 "ScaleGroups$Order" "aparts" "[I", Cond.methodLink RX5 44 yX6_has]
def wsX8_window_r2 : List Cond := [Cond.static yX6_has, Cond.initialized RX6, Cond.code yX6_has cX6_has 2 (some .boolean), Cond.methodLink RX5 50 yX2_partOf, Cond.instanceMethod yX2_partOf, Cond.selects RX2 yX2_partOf yX2_partOf, Cond.code yX2_partOf cX2_partOf 4 (some .int), Cond.methodLink RX2 99 Lib.Math.min.name, Cond.static Lib.Math.min.name, Cond.initialized "java/lang/Math", Cond.code Lib.Math.min.name Lib.Math.min.code 2 (some .int), Cond.fieldLink RX2 39 "ScaleGroups$Order" "parts" "[I", Cond.methodLink RX2 83 yX6_has, Cond.methodLink RX5 54 yX5_gather, Cond.instanceMethod yX5_gather, Cond.selects RX5 yX5_gather yX5_gather, Cond.code yX5_gather cX5_gather 7 none, Cond.fieldLink RX5 28 "ScaleGroups$Scale" "groupAt" "[I", Cond.fieldLink RX5 58 "ScaleGroups$Points" "ws" "[I", Cond.fieldLink RX5 61 "ScaleGroups$Points" "xs" "[I", Cond.fieldLink RX5 62 "ScaleGroups$Points" "ys" "[I", Cond.fieldLink RX5 19 "ScaleGroups$Scale" "weights" "[I", Cond.fieldLink RX5 22 "ScaleGroups$Scale" "xs" "[I", Cond.fieldLink RX5 25 "ScaleGroups$Scale" "ys" "[I"]
def wsX8_window_r3 : List Cond := [Cond.methodLink RX8 254 yX5_centresIn, Cond.instanceMethod yX5_centresIn, Cond.selects RX5 yX5_centresIn yX5_centresIn, Cond.code yX5_centresIn cX5_centresIn 7 (some .int), Cond.methodLink RX8 258 yX4_within, Cond.instanceMethod yX4_within, Cond.selects RX4 yX4_within yX4_within, Cond.initialized RX4, Cond.code yX4_within cX4_within 7 (some .int), Cond.fieldLink RX4 9 "ScaleGroups$Points" "count" "I", Cond.fieldLink RX4 15 "ScaleGroups$Points" "xs" "[I", Cond.fieldLink RX4 19 "ScaleGroups$Points" "ys" "[I", Cond.methodLink RX8 158 yJ6_bitCount_0f7a4, Cond.static yJ6_bitCount_0f7a4, Cond.initialized RJ6, Cond.code yJ6_bitCount_0f7a4 cJ6_bitCount_0f7a4 1 (some .int), Cond.constant RJ6 265 (1431655765), Cond.constant RJ6 266 (858993459), Cond.constant RJ6 267 (252645135), Cond.methodLink RX8 261 yX5_weightOf, Cond.instanceMethod yX5_weightOf, Cond.selects RX5 yX5_weightOf yX5_weightOf, Cond.code yX5_weightOf cX5_weightOf 4 (some .int), Cond.methodLink RX8 163 yX4_weightOf]
def wsX8_window_r4 : List Cond := [Cond.instanceMethod yX4_weightOf, Cond.selects RX4 yX4_weightOf yX4_weightOf, Cond.code yX4_weightOf cX4_weightOf 4 (some .int), Cond.fieldLink RX4 22 "ScaleGroups$Points" "ws" "[I", Cond.methodLink RX4 44 yX6_has]
def wsX8_window : List Cond := .code yX8_window cX8_window 9 (some .int) :: ((wsX8_window_r1 ++ (wsX8_window_r2 ++ (wsX8_window_r3 ++ wsX8_window_r4))) ++ wsX80 ++ wsX20 ++ wsX50 ++ wsX40)
def wsX8_top_r1 : List Cond := [Cond.fieldLink RX8 25 "ScaleGroups" "scale" "LScaleGroups$Scale;", Cond.fieldLink RX8 12 "ScaleGroups" "now" "LScaleGroups$Order;", Cond.methodLink RX8 203 yX8_isZoom, Cond.static yX8_isZoom, Cond.initialized RX8, Cond.code yX8_isZoom cX8_isZoom 1 (some .boolean), Cond.methodLink RX8 206 yX5_cut, Cond.instanceMethod yX5_cut, Cond.selects RX5 yX5_cut yX5_cut, Cond.initialized RX5, Cond.code yX5_cut cX5_cut 6 none, Cond.fieldLink RX5 9 "ScaleGroups$Scale" "count" "I", Cond.fieldLink RX5 37 "ScaleGroups$Order" "points" "LScaleGroups$Points;", Cond.fieldLink RX5 41 "ScaleGroups$Points" "count" "I", Cond.fieldLink RX5 15 "ScaleGroups$Scale" "sets" "[I", Cond.methodLink RX5 31 yX2_joinsWithin, Cond.instanceMethod yX2_joinsWithin, Cond.selects RX2 yX2_joinsWithin yX2_joinsWithin, Cond.initialized RX2, Cond.code yX2_joinsWithin cX2_joinsWithin 4 (some .int), Cond.fieldLink RX2 18 "ScaleGroups$Order" "count" "I", Cond.fieldLink RX2 26 "ScaleGroups$Order" "aparts" "[I", Cond.methodLink RX5 44 yX6_has, Cond.static yX6_has]
def wsX8_top_r2 : List Cond := [Cond.initialized RX6, Cond.code yX6_has cX6_has 2 (some .boolean), Cond.methodLink RX5 50 yX2_partOf, Cond.instanceMethod yX2_partOf, Cond.selects RX2 yX2_partOf yX2_partOf, Cond.code yX2_partOf cX2_partOf 4 (some .int), Cond.methodLink RX2 99 Lib.Math.min.name, Cond.static Lib.Math.min.name, Cond.initialized "java/lang/Math", Cond.code Lib.Math.min.name Lib.Math.min.code 2 (some .int), Cond.fieldLink RX2 39 "ScaleGroups$Order" "parts" "[I", Cond.methodLink RX2 83 yX6_has, Cond.methodLink RX5 54 yX5_gather, Cond.instanceMethod yX5_gather, Cond.selects RX5 yX5_gather yX5_gather, Cond.code yX5_gather cX5_gather 7 none, Cond.fieldLink RX5 28 "ScaleGroups$Scale" "groupAt" "[I", Cond.fieldLink RX5 58 "ScaleGroups$Points" "ws" "[I", Cond.fieldLink RX5 61 "ScaleGroups$Points" "xs" "[I", Cond.fieldLink RX5 62 "ScaleGroups$Points" "ys" "[I", Cond.fieldLink RX5 19 "ScaleGroups$Scale" "weights" "[I", Cond.fieldLink RX5 22 "ScaleGroups$Scale" "xs" "[I", Cond.fieldLink RX5 25 "ScaleGroups$Scale" "ys" "[I", Cond.methodLink RX8 254 yX5_centresIn]
def wsX8_top_r3 : List Cond := [Cond.instanceMethod yX5_centresIn, Cond.selects RX5 yX5_centresIn yX5_centresIn, Cond.code yX5_centresIn cX5_centresIn 7 (some .int), Cond.methodLink RX8 262 yX5_heaviest, Cond.instanceMethod yX5_heaviest, Cond.selects RX5 yX5_heaviest yX5_heaviest, Cond.code yX5_heaviest cX5_heaviest 4 (some .int), Cond.methodLink RX5 63 yX5_countAhead, Cond.instanceMethod yX5_countAhead, Cond.selects RX5 yX5_countAhead yX5_countAhead, Cond.code yX5_countAhead cX5_countAhead 6 (some .int)]
def wsX8_top : List Cond := .code yX8_top cX8_top 7 (some .int) :: ((wsX8_top_r1 ++ (wsX8_top_r2 ++ wsX8_top_r3)) ++ wsX80 ++ wsX50 ++ wsX20 ++ wsX40)
def wsX8_nextInRow : List Cond := .code yX8_nextInRow cX8_nextInRow 5 (some .int) :: ([.fieldLink RX8 60 "ScaleGroups" "row" "[I"] ++ wsX80)
def wsX8_filled : List Cond := .code yX8_filled cX8_filled 7 (some .int) :: ([.fieldLink RX8 12 "ScaleGroups" "now" "LScaleGroups$Order;", .fieldLink RX8 75 "ScaleGroups$Order" "points" "LScaleGroups$Points;", .fieldLink RX8 113 "ScaleGroups$Points" "count" "I", .fieldLink RX8 60 "ScaleGroups" "row" "[I", .fieldLink RX8 119 "ScaleGroups$Points" "ys" "[I", .fieldLink RX8 116 "ScaleGroups$Points" "xs" "[I", .methodLink RX8 203 yX8_isZoom, .static yX8_isZoom, .initialized RX8, .code yX8_isZoom cX8_isZoom 1 (some .boolean), .methodLink RX8 265 yX8_nextInRow, .instanceMethod yX8_nextInRow, .selects RX8 yX8_nextInRow yX8_nextInRow, .code yX8_nextInRow cX8_nextInRow 5 (some .int)] ++ wsX80 ++ wsX20 ++ wsX40)
def wsX8_densest_r1 : List Cond := [Cond.fieldLink RX8 12 "ScaleGroups" "now" "LScaleGroups$Order;", Cond.fieldLink RX8 75 "ScaleGroups$Order" "points" "LScaleGroups$Points;", Cond.fieldLink RX8 113 "ScaleGroups$Points" "count" "I", Cond.fieldLink RX8 116 "ScaleGroups$Points" "xs" "[I", Cond.fieldLink RX8 119 "ScaleGroups$Points" "ys" "[I", Cond.methodLink RX8 203 yX8_isZoom, Cond.static yX8_isZoom, Cond.initialized RX8, Cond.code yX8_isZoom cX8_isZoom 1 (some .boolean), Cond.methodLink RX8 258 yX4_within, Cond.instanceMethod yX4_within, Cond.selects RX4 yX4_within yX4_within, Cond.initialized RX4, Cond.code yX4_within cX4_within 7 (some .int), Cond.fieldLink RX4 9 "ScaleGroups$Points" "count" "I", Cond.fieldLink RX4 15 "ScaleGroups$Points" "xs" "[I", Cond.fieldLink RX4 19 "ScaleGroups$Points" "ys" "[I", Cond.methodLink RX8 163 yX4_weightOf, Cond.instanceMethod yX4_weightOf, Cond.selects RX4 yX4_weightOf yX4_weightOf, Cond.code yX4_weightOf cX4_weightOf 4 (some .int), Cond.fieldLink RX4 22 "ScaleGroups$Points" "ws" "[I", Cond.methodLink RX4 44 yX6_has, Cond.static yX6_has]
def wsX8_densest_r2 : List Cond := [Cond.initialized RX6, Cond.code yX6_has cX6_has 2 (some .boolean), Cond.methodLink RX8 158 yJ6_bitCount_0f7a4, Cond.static yJ6_bitCount_0f7a4, Cond.initialized RJ6, Cond.code yJ6_bitCount_0f7a4 cJ6_bitCount_0f7a4 1 (some .int), Cond.constant RJ6 265 (1431655765), Cond.constant RJ6 266 (858993459), Cond.constant RJ6 267 (252645135)]
def wsX8_densest : List Cond := .code yX8_densest cX8_densest 14 (some .int) :: ((wsX8_densest_r1 ++ wsX8_densest_r2) ++ wsX80 ++ wsX20 ++ wsX40)
def wsX8_pointsInTile : List Cond := .code yX8_pointsInTile cX8_pointsInTile 7 (some .int) :: ([.fieldLink RX8 12 "ScaleGroups" "now" "LScaleGroups$Order;", .fieldLink RX8 75 "ScaleGroups$Order" "points" "LScaleGroups$Points;", .methodLink RX8 258 yX4_within, .instanceMethod yX4_within, .selects RX4 yX4_within yX4_within, .initialized RX4, .code yX4_within cX4_within 7 (some .int), .fieldLink RX4 9 "ScaleGroups$Points" "count" "I", .fieldLink RX4 15 "ScaleGroups$Points" "xs" "[I", .fieldLink RX4 19 "ScaleGroups$Points" "ys" "[I"] ++ wsX80 ++ wsX20 ++ wsX40)
def wsX8_widestTile : List Cond := .code yX8_widestTile cX8_widestTile 7 (some .int) :: ([.fieldLink RX8 12 "ScaleGroups" "now" "LScaleGroups$Order;", .fieldLink RX8 75 "ScaleGroups$Order" "points" "LScaleGroups$Points;", .fieldLink RX8 116 "ScaleGroups$Points" "xs" "[I", .fieldLink RX8 119 "ScaleGroups$Points" "ys" "[I", .methodLink RX8 293 yX8_pointsInTile, .instanceMethod yX8_pointsInTile, .selects RX8 yX8_pointsInTile yX8_pointsInTile, .initialized RX8, .code yX8_pointsInTile cX8_pointsInTile 7 (some .int), .methodLink RX8 258 yX4_within, .instanceMethod yX4_within, .selects RX4 yX4_within yX4_within, .initialized RX4, .code yX4_within cX4_within 7 (some .int), .fieldLink RX4 9 "ScaleGroups$Points" "count" "I", .fieldLink RX4 15 "ScaleGroups$Points" "xs" "[I", .fieldLink RX4 19 "ScaleGroups$Points" "ys" "[I"] ++ wsX80 ++ wsX20 ++ wsX40)
def wsX8_cover_r1 : List Cond := [Cond.fieldLink RX8 25 "ScaleGroups" "scale" "LScaleGroups$Scale;", Cond.fieldLink RX8 216 "ScaleGroups$Scale" "sets" "[I", Cond.fieldLink RX8 12 "ScaleGroups" "now" "LScaleGroups$Order;", Cond.fieldLink RX8 75 "ScaleGroups$Order" "points" "LScaleGroups$Points;", Cond.fieldLink RX8 113 "ScaleGroups$Points" "count" "I", Cond.methodLink RX8 213 yX8_cutsGroup, Cond.instanceMethod yX8_cutsGroup, Cond.selects RX8 yX8_cutsGroup yX8_cutsGroup, Cond.initialized RX8, Cond.code yX8_cutsGroup cX8_cutsGroup 3 (some .boolean), Cond.fieldLink RX8 283 "ScaleGroups$Scale" "count" "I", Cond.methodLink RX8 203 yX8_isZoom, Cond.static yX8_isZoom, Cond.code yX8_isZoom cX8_isZoom 1 (some .boolean), Cond.methodLink RX8 206 yX5_cut, Cond.instanceMethod yX5_cut, Cond.selects RX5 yX5_cut yX5_cut, Cond.initialized RX5, Cond.code yX5_cut cX5_cut 6 none, Cond.fieldLink RX5 9 "ScaleGroups$Scale" "count" "I", Cond.fieldLink RX5 37 "ScaleGroups$Order" "points" "LScaleGroups$Points;", Cond.fieldLink RX5 41 "ScaleGroups$Points" "count" "I", Cond.fieldLink RX5 15 "ScaleGroups$Scale" "sets" "[I", Cond.methodLink RX5 31 yX2_joinsWithin]
def wsX8_cover_r2 : List Cond := [Cond.instanceMethod yX2_joinsWithin, Cond.selects RX2 yX2_joinsWithin yX2_joinsWithin, Cond.initialized RX2, Cond.code yX2_joinsWithin cX2_joinsWithin 4 (some .int), Cond.fieldLink RX2 18 "ScaleGroups$Order" "count" "I", Cond.fieldLink RX2 26 "ScaleGroups$Order" "aparts" "[I", Cond.methodLink RX5 44 yX6_has, Cond.static yX6_has, Cond.initialized RX6, Cond.code yX6_has cX6_has 2 (some .boolean), Cond.methodLink RX5 50 yX2_partOf, Cond.instanceMethod yX2_partOf, Cond.selects RX2 yX2_partOf yX2_partOf, Cond.code yX2_partOf cX2_partOf 4 (some .int), Cond.methodLink RX2 99 Lib.Math.min.name, Cond.static Lib.Math.min.name, Cond.initialized "java/lang/Math", Cond.code Lib.Math.min.name Lib.Math.min.code 2 (some .int), Cond.fieldLink RX2 39 "ScaleGroups$Order" "parts" "[I", Cond.methodLink RX2 83 yX6_has, Cond.methodLink RX5 54 yX5_gather, Cond.instanceMethod yX5_gather, Cond.selects RX5 yX5_gather yX5_gather, Cond.code yX5_gather cX5_gather 7 none]
def wsX8_cover_r3 : List Cond := [Cond.fieldLink RX5 28 "ScaleGroups$Scale" "groupAt" "[I", Cond.fieldLink RX5 58 "ScaleGroups$Points" "ws" "[I", Cond.fieldLink RX5 61 "ScaleGroups$Points" "xs" "[I", Cond.fieldLink RX5 62 "ScaleGroups$Points" "ys" "[I", Cond.fieldLink RX5 19 "ScaleGroups$Scale" "weights" "[I", Cond.fieldLink RX5 22 "ScaleGroups$Scale" "xs" "[I", Cond.fieldLink RX5 25 "ScaleGroups$Scale" "ys" "[I", Cond.methodLink RX8 268 yX6_has, Cond.methodLink RX8 271 yX8_widestTile, Cond.instanceMethod yX8_widestTile, Cond.selects RX8 yX8_widestTile yX8_widestTile, Cond.code yX8_widestTile cX8_widestTile 7 (some .int), Cond.fieldLink RX8 116 "ScaleGroups$Points" "xs" "[I", Cond.fieldLink RX8 119 "ScaleGroups$Points" "ys" "[I", Cond.methodLink RX8 293 yX8_pointsInTile, Cond.instanceMethod yX8_pointsInTile, Cond.selects RX8 yX8_pointsInTile yX8_pointsInTile, Cond.code yX8_pointsInTile cX8_pointsInTile 7 (some .int), Cond.methodLink RX8 258 yX4_within, Cond.instanceMethod yX4_within, Cond.selects RX4 yX4_within yX4_within, Cond.initialized RX4, Cond.code yX4_within cX4_within 7 (some .int), Cond.fieldLink RX4 9 "ScaleGroups$Points" "count" "I"]
def wsX8_cover_r4 : List Cond := [Cond.fieldLink RX4 15 "ScaleGroups$Points" "xs" "[I", Cond.fieldLink RX4 19 "ScaleGroups$Points" "ys" "[I", Cond.methodLink RX8 219 yX6_least, Cond.static yX6_least, Cond.code yX6_least cX6_least 1 (some .int), Cond.methodLink RX6 9 yX6_nth, Cond.static yX6_nth, Cond.code yX6_nth cX6_nth 4 (some .int), Cond.methodLink RX6 15 yX6_has]
def wsX8_cover : List Cond := .code yX8_cover cX8_cover 6 (some .int) :: ((wsX8_cover_r1 ++ (wsX8_cover_r2 ++ (wsX8_cover_r3 ++ wsX8_cover_r4))) ++ wsX80 ++ wsX50 ++ wsX20 ++ wsX40)
def wsX8_outline_r1 : List Cond := [Cond.fieldLink RX8 42 "ScaleGroups" "corners" "LScaleGroups$Outline;", Cond.fieldLink RX8 12 "ScaleGroups" "now" "LScaleGroups$Order;", Cond.fieldLink RX8 75 "ScaleGroups$Order" "points" "LScaleGroups$Points;", Cond.fieldLink RX8 25 "ScaleGroups" "scale" "LScaleGroups$Scale;", Cond.fieldLink RX8 216 "ScaleGroups$Scale" "sets" "[I", Cond.fieldLink RX8 277 "ScaleGroups$Outline" "count" "I", Cond.fieldLink RX8 278 "ScaleGroups$Outline" "row" "[I", Cond.methodLink RX8 213 yX8_cutsGroup, Cond.instanceMethod yX8_cutsGroup, Cond.selects RX8 yX8_cutsGroup yX8_cutsGroup, Cond.initialized RX8, Cond.code yX8_cutsGroup cX8_cutsGroup 3 (some .boolean), Cond.fieldLink RX8 283 "ScaleGroups$Scale" "count" "I", Cond.methodLink RX8 203 yX8_isZoom, Cond.static yX8_isZoom, Cond.code yX8_isZoom cX8_isZoom 1 (some .boolean), Cond.methodLink RX8 206 yX5_cut, Cond.instanceMethod yX5_cut, Cond.selects RX5 yX5_cut yX5_cut, Cond.initialized RX5, Cond.code yX5_cut cX5_cut 6 none, Cond.fieldLink RX5 9 "ScaleGroups$Scale" "count" "I", Cond.fieldLink RX5 37 "ScaleGroups$Order" "points" "LScaleGroups$Points;", Cond.fieldLink RX5 41 "ScaleGroups$Points" "count" "I"]
def wsX8_outline_r2 : List Cond := [Cond.fieldLink RX5 15 "ScaleGroups$Scale" "sets" "[I", Cond.methodLink RX5 31 yX2_joinsWithin, Cond.instanceMethod yX2_joinsWithin, Cond.selects RX2 yX2_joinsWithin yX2_joinsWithin, Cond.initialized RX2, Cond.code yX2_joinsWithin cX2_joinsWithin 4 (some .int), Cond.fieldLink RX2 18 "ScaleGroups$Order" "count" "I", Cond.fieldLink RX2 26 "ScaleGroups$Order" "aparts" "[I", Cond.methodLink RX5 44 yX6_has, Cond.static yX6_has, Cond.initialized RX6, Cond.code yX6_has cX6_has 2 (some .boolean), Cond.methodLink RX5 50 yX2_partOf, Cond.instanceMethod yX2_partOf, Cond.selects RX2 yX2_partOf yX2_partOf, Cond.code yX2_partOf cX2_partOf 4 (some .int), Cond.methodLink RX2 99 Lib.Math.min.name, Cond.static Lib.Math.min.name, Cond.initialized "java/lang/Math", Cond.code Lib.Math.min.name Lib.Math.min.code 2 (some .int), Cond.fieldLink RX2 39 "ScaleGroups$Order" "parts" "[I", Cond.methodLink RX2 83 yX6_has, Cond.methodLink RX5 54 yX5_gather, Cond.instanceMethod yX5_gather]
def wsX8_outline_r3 : List Cond := [Cond.selects RX5 yX5_gather yX5_gather, Cond.code yX5_gather cX5_gather 7 none, Cond.fieldLink RX5 28 "ScaleGroups$Scale" "groupAt" "[I", Cond.fieldLink RX5 58 "ScaleGroups$Points" "ws" "[I", Cond.fieldLink RX5 61 "ScaleGroups$Points" "xs" "[I", Cond.fieldLink RX5 62 "ScaleGroups$Points" "ys" "[I", Cond.fieldLink RX5 19 "ScaleGroups$Scale" "weights" "[I", Cond.fieldLink RX5 22 "ScaleGroups$Scale" "xs" "[I", Cond.fieldLink RX5 25 "ScaleGroups$Scale" "ys" "[I", Cond.methodLink RX8 274 yX3_draw, Cond.instanceMethod yX3_draw, Cond.selects RX3 yX3_draw yX3_draw, Cond.initialized RX3, Cond.code yX3_draw cX3_draw 5 none, Cond.fieldLink RX3 9 "ScaleGroups$Outline" "count" "I", Cond.fieldLink RX3 19 "ScaleGroups$Points" "count" "I", Cond.fieldLink RX3 15 "ScaleGroups$Outline" "row" "[I", Cond.methodLink RX3 22 yX6_has, Cond.methodLink RX3 28 yX3_turnTo, Cond.instanceMethod yX3_turnTo, Cond.selects RX3 yX3_turnTo yX3_turnTo, Cond.code yX3_turnTo cX3_turnTo 4 none, Cond.methodLink RX3 32 yX3_cross, Cond.static yX3_cross]
def wsX8_outline_r4 : List Cond := [Cond.code yX3_cross cX3_cross 4 (some .int), Cond.fieldLink RX3 36 "ScaleGroups$Points" "xs" "[I", Cond.fieldLink RX3 39 "ScaleGroups$Points" "ys" "[I"]
def wsX8_outline : List Cond := .code yX8_outline cX8_outline 4 (some .int) :: ((wsX8_outline_r1 ++ (wsX8_outline_r2 ++ (wsX8_outline_r3 ++ wsX8_outline_r4))) ++ wsX80 ++ wsX20 ++ wsX50 ++ wsX30 ++ wsX40)
def wsX8_area_r1 : List Cond := [Cond.fieldLink RX8 42 "ScaleGroups" "corners" "LScaleGroups$Outline;", Cond.fieldLink RX8 12 "ScaleGroups" "now" "LScaleGroups$Order;", Cond.fieldLink RX8 75 "ScaleGroups$Order" "points" "LScaleGroups$Points;", Cond.fieldLink RX8 25 "ScaleGroups" "scale" "LScaleGroups$Scale;", Cond.fieldLink RX8 216 "ScaleGroups$Scale" "sets" "[I", Cond.methodLink RX8 213 yX8_cutsGroup, Cond.instanceMethod yX8_cutsGroup, Cond.selects RX8 yX8_cutsGroup yX8_cutsGroup, Cond.initialized RX8, Cond.code yX8_cutsGroup cX8_cutsGroup 3 (some .boolean), Cond.fieldLink RX8 283 "ScaleGroups$Scale" "count" "I", Cond.methodLink RX8 203 yX8_isZoom, Cond.static yX8_isZoom, Cond.code yX8_isZoom cX8_isZoom 1 (some .boolean), Cond.methodLink RX8 206 yX5_cut, Cond.instanceMethod yX5_cut, Cond.selects RX5 yX5_cut yX5_cut, Cond.initialized RX5, Cond.code yX5_cut cX5_cut 6 none, Cond.fieldLink RX5 9 "ScaleGroups$Scale" "count" "I", Cond.fieldLink RX5 37 "ScaleGroups$Order" "points" "LScaleGroups$Points;", Cond.fieldLink RX5 41 "ScaleGroups$Points" "count" "I", Cond.fieldLink RX5 15 "ScaleGroups$Scale" "sets" "[I", Cond.methodLink RX5 31 yX2_joinsWithin]
def wsX8_area_r2 : List Cond := [Cond.instanceMethod yX2_joinsWithin, Cond.selects RX2 yX2_joinsWithin yX2_joinsWithin, Cond.initialized RX2, Cond.code yX2_joinsWithin cX2_joinsWithin 4 (some .int), Cond.fieldLink RX2 18 "ScaleGroups$Order" "count" "I", Cond.fieldLink RX2 26 "ScaleGroups$Order" "aparts" "[I", Cond.methodLink RX5 44 yX6_has, Cond.static yX6_has, Cond.initialized RX6, Cond.code yX6_has cX6_has 2 (some .boolean), Cond.methodLink RX5 50 yX2_partOf, Cond.instanceMethod yX2_partOf, Cond.selects RX2 yX2_partOf yX2_partOf, Cond.code yX2_partOf cX2_partOf 4 (some .int), Cond.methodLink RX2 99 Lib.Math.min.name, Cond.static Lib.Math.min.name, Cond.initialized "java/lang/Math", Cond.code Lib.Math.min.name Lib.Math.min.code 2 (some .int), Cond.fieldLink RX2 39 "ScaleGroups$Order" "parts" "[I", Cond.methodLink RX2 83 yX6_has, Cond.methodLink RX5 54 yX5_gather, Cond.instanceMethod yX5_gather, Cond.selects RX5 yX5_gather yX5_gather, Cond.code yX5_gather cX5_gather 7 none]
def wsX8_area_r3 : List Cond := [Cond.fieldLink RX5 28 "ScaleGroups$Scale" "groupAt" "[I", Cond.fieldLink RX5 58 "ScaleGroups$Points" "ws" "[I", Cond.fieldLink RX5 61 "ScaleGroups$Points" "xs" "[I", Cond.fieldLink RX5 62 "ScaleGroups$Points" "ys" "[I", Cond.fieldLink RX5 19 "ScaleGroups$Scale" "weights" "[I", Cond.fieldLink RX5 22 "ScaleGroups$Scale" "xs" "[I", Cond.fieldLink RX5 25 "ScaleGroups$Scale" "ys" "[I", Cond.methodLink RX8 274 yX3_draw, Cond.instanceMethod yX3_draw, Cond.selects RX3 yX3_draw yX3_draw, Cond.initialized RX3, Cond.code yX3_draw cX3_draw 5 none, Cond.fieldLink RX3 9 "ScaleGroups$Outline" "count" "I", Cond.fieldLink RX3 19 "ScaleGroups$Points" "count" "I", Cond.fieldLink RX3 15 "ScaleGroups$Outline" "row" "[I", Cond.methodLink RX3 22 yX6_has, Cond.methodLink RX3 28 yX3_turnTo, Cond.instanceMethod yX3_turnTo, Cond.selects RX3 yX3_turnTo yX3_turnTo, Cond.code yX3_turnTo cX3_turnTo 4 none, Cond.methodLink RX3 32 yX3_cross, Cond.static yX3_cross, Cond.code yX3_cross cX3_cross 4 (some .int), Cond.fieldLink RX3 36 "ScaleGroups$Points" "xs" "[I"]
def wsX8_area_r4 : List Cond := [Cond.fieldLink RX3 39 "ScaleGroups$Points" "ys" "[I", Cond.methodLink RX8 279 yX3_twiceArea, Cond.instanceMethod yX3_twiceArea, Cond.selects RX3 yX3_twiceArea yX3_twiceArea, Cond.code yX3_twiceArea cX3_twiceArea 6 (some .int)]
def wsX8_area : List Cond := .code yX8_area cX8_area 3 (some .int) :: ((wsX8_area_r1 ++ (wsX8_area_r2 ++ (wsX8_area_r3 ++ wsX8_area_r4))) ++ wsX80 ++ wsX20 ++ wsX50 ++ wsX40 ++ wsX30)
def wsX8_drift_r1 : List Cond := [Cond.fieldLink RX8 25 "ScaleGroups" "scale" "LScaleGroups$Scale;", Cond.fieldLink RX8 12 "ScaleGroups" "now" "LScaleGroups$Order;", Cond.fieldLink RX8 29 "ScaleGroups" "other" "LScaleGroups$Scale;", Cond.fieldLink RX8 283 "ScaleGroups$Scale" "count" "I", Cond.fieldLink RX8 216 "ScaleGroups$Scale" "sets" "[I", Cond.fieldLink RX8 234 "ScaleGroups$Scale" "xs" "[I", Cond.fieldLink RX8 235 "ScaleGroups$Scale" "ys" "[I", Cond.methodLink RX8 206 yX5_cut, Cond.instanceMethod yX5_cut, Cond.selects RX5 yX5_cut yX5_cut, Cond.initialized RX5, Cond.code yX5_cut cX5_cut 6 none, Cond.fieldLink RX5 9 "ScaleGroups$Scale" "count" "I", Cond.fieldLink RX5 37 "ScaleGroups$Order" "points" "LScaleGroups$Points;", Cond.fieldLink RX5 41 "ScaleGroups$Points" "count" "I", Cond.fieldLink RX5 15 "ScaleGroups$Scale" "sets" "[I", Cond.methodLink RX5 31 yX2_joinsWithin, Cond.instanceMethod yX2_joinsWithin, Cond.selects RX2 yX2_joinsWithin yX2_joinsWithin, Cond.initialized RX2, Cond.code yX2_joinsWithin cX2_joinsWithin 4 (some .int), Cond.fieldLink RX2 18 "ScaleGroups$Order" "count" "I", Cond.fieldLink RX2 26 "ScaleGroups$Order" "aparts" "[I", Cond.methodLink RX5 44 yX6_has]
def wsX8_drift_r2 : List Cond := [Cond.static yX6_has, Cond.initialized RX6, Cond.code yX6_has cX6_has 2 (some .boolean), Cond.methodLink RX5 50 yX2_partOf, Cond.instanceMethod yX2_partOf, Cond.selects RX2 yX2_partOf yX2_partOf, Cond.code yX2_partOf cX2_partOf 4 (some .int), Cond.methodLink RX2 99 Lib.Math.min.name, Cond.static Lib.Math.min.name, Cond.initialized "java/lang/Math", Cond.code Lib.Math.min.name Lib.Math.min.code 2 (some .int), Cond.fieldLink RX2 39 "ScaleGroups$Order" "parts" "[I", Cond.methodLink RX2 83 yX6_has, Cond.methodLink RX5 54 yX5_gather, Cond.instanceMethod yX5_gather, Cond.selects RX5 yX5_gather yX5_gather, Cond.code yX5_gather cX5_gather 7 none, Cond.fieldLink RX5 28 "ScaleGroups$Scale" "groupAt" "[I", Cond.fieldLink RX5 58 "ScaleGroups$Points" "ws" "[I", Cond.fieldLink RX5 61 "ScaleGroups$Points" "xs" "[I", Cond.fieldLink RX5 62 "ScaleGroups$Points" "ys" "[I", Cond.fieldLink RX5 19 "ScaleGroups$Scale" "weights" "[I", Cond.fieldLink RX5 22 "ScaleGroups$Scale" "xs" "[I", Cond.fieldLink RX5 25 "ScaleGroups$Scale" "ys" "[I"]
def wsX8_drift_r3 : List Cond := [Cond.methodLink RX8 284 yX5_groupOfPart, Cond.instanceMethod yX5_groupOfPart, Cond.selects RX5 yX5_groupOfPart yX5_groupOfPart, Cond.code yX5_groupOfPart cX5_groupOfPart 3 (some .int), Cond.methodLink RX8 287 yX6_farther, Cond.static yX6_farther, Cond.code yX6_farther cX6_farther 2 (some .int), Cond.methodLink RX6 27 Lib.Math.abs.name, Cond.static Lib.Math.abs.name, Cond.code Lib.Math.abs.name Lib.Math.abs.code 1 (some .int), Cond.methodLink RX6 24 Lib.Math.max.name, Cond.static Lib.Math.max.name, Cond.code Lib.Math.max.name Lib.Math.max.code 2 (some .int)]
def wsX8_drift : List Cond := .code yX8_drift cX8_drift 5 (some .int) :: ((wsX8_drift_r1 ++ (wsX8_drift_r2 ++ wsX8_drift_r3)) ++ wsX80 ++ wsX50 ++ wsX20 ++ wsX40)
def wsX8_isTile : List Cond := .code yX8_isTile cX8_isTile 2 (some .boolean) :: ([.methodLink RX8 203 yX8_isZoom, .static yX8_isZoom, .initialized RX8, .code yX8_isZoom cX8_isZoom 1 (some .boolean)])
def wsX8_filledQuarters : List Cond := .code yX8_filledQuarters cX8_filledQuarters 6 (some .int) :: ([.methodLink RX8 293 yX8_pointsInTile, .instanceMethod yX8_pointsInTile, .selects RX8 yX8_pointsInTile yX8_pointsInTile, .initialized RX8, .code yX8_pointsInTile cX8_pointsInTile 7 (some .int), .fieldLink RX8 12 "ScaleGroups" "now" "LScaleGroups$Order;", .fieldLink RX8 75 "ScaleGroups$Order" "points" "LScaleGroups$Points;", .methodLink RX8 258 yX4_within, .instanceMethod yX4_within, .selects RX4 yX4_within yX4_within, .initialized RX4, .code yX4_within cX4_within 7 (some .int), .fieldLink RX4 9 "ScaleGroups$Points" "count" "I", .fieldLink RX4 15 "ScaleGroups$Points" "xs" "[I", .fieldLink RX4 19 "ScaleGroups$Points" "ys" "[I"] ++ wsX80 ++ wsX20 ++ wsX40)
def wsX8_tile_r1 : List Cond := [Cond.fieldLink RX8 12 "ScaleGroups" "now" "LScaleGroups$Order;", Cond.fieldLink RX8 75 "ScaleGroups$Order" "points" "LScaleGroups$Points;", Cond.fieldLink RX8 25 "ScaleGroups" "scale" "LScaleGroups$Scale;", Cond.methodLink RX8 290 yX8_isTile, Cond.static yX8_isTile, Cond.initialized RX8, Cond.code yX8_isTile cX8_isTile 2 (some .boolean), Cond.methodLink RX8 203 yX8_isZoom, Cond.static yX8_isZoom, Cond.code yX8_isZoom cX8_isZoom 1 (some .boolean), Cond.methodLink RX8 293 yX8_pointsInTile, Cond.instanceMethod yX8_pointsInTile, Cond.selects RX8 yX8_pointsInTile yX8_pointsInTile, Cond.code yX8_pointsInTile cX8_pointsInTile 7 (some .int), Cond.methodLink RX8 258 yX4_within, Cond.instanceMethod yX4_within, Cond.selects RX4 yX4_within yX4_within, Cond.initialized RX4, Cond.code yX4_within cX4_within 7 (some .int), Cond.fieldLink RX4 9 "ScaleGroups$Points" "count" "I", Cond.fieldLink RX4 15 "ScaleGroups$Points" "xs" "[I", Cond.fieldLink RX4 19 "ScaleGroups$Points" "ys" "[I", Cond.methodLink RX8 158 yJ6_bitCount_0f7a4, Cond.static yJ6_bitCount_0f7a4]
def wsX8_tile_r2 : List Cond := [Cond.initialized RJ6, Cond.code yJ6_bitCount_0f7a4 cJ6_bitCount_0f7a4 1 (some .int), Cond.constant RJ6 265 (1431655765), Cond.constant RJ6 266 (858993459), Cond.constant RJ6 267 (252645135), Cond.methodLink RX8 163 yX4_weightOf, Cond.instanceMethod yX4_weightOf, Cond.selects RX4 yX4_weightOf yX4_weightOf, Cond.code yX4_weightOf cX4_weightOf 4 (some .int), Cond.fieldLink RX4 22 "ScaleGroups$Points" "ws" "[I", Cond.methodLink RX4 44 yX6_has, Cond.static yX6_has, Cond.initialized RX6, Cond.code yX6_has cX6_has 2 (some .boolean), Cond.methodLink RX8 206 yX5_cut, Cond.instanceMethod yX5_cut, Cond.selects RX5 yX5_cut yX5_cut, Cond.initialized RX5, Cond.code yX5_cut cX5_cut 6 none, Cond.fieldLink RX5 9 "ScaleGroups$Scale" "count" "I", Cond.fieldLink RX5 37 "ScaleGroups$Order" "points" "LScaleGroups$Points;", Cond.fieldLink RX5 41 "ScaleGroups$Points" "count" "I", Cond.fieldLink RX5 15 "ScaleGroups$Scale" "sets" "[I", Cond.methodLink RX5 31 yX2_joinsWithin]
def wsX8_tile_r3 : List Cond := [Cond.instanceMethod yX2_joinsWithin, Cond.selects RX2 yX2_joinsWithin yX2_joinsWithin, Cond.initialized RX2, Cond.code yX2_joinsWithin cX2_joinsWithin 4 (some .int), Cond.fieldLink RX2 18 "ScaleGroups$Order" "count" "I", Cond.fieldLink RX2 26 "ScaleGroups$Order" "aparts" "[I", Cond.methodLink RX5 44 yX6_has, Cond.methodLink RX5 50 yX2_partOf, Cond.instanceMethod yX2_partOf, Cond.selects RX2 yX2_partOf yX2_partOf, Cond.code yX2_partOf cX2_partOf 4 (some .int), Cond.methodLink RX2 99 Lib.Math.min.name, Cond.static Lib.Math.min.name, Cond.initialized "java/lang/Math", Cond.code Lib.Math.min.name Lib.Math.min.code 2 (some .int), Cond.fieldLink RX2 39 "ScaleGroups$Order" "parts" "[I", Cond.methodLink RX2 83 yX6_has, Cond.methodLink RX5 54 yX5_gather, Cond.instanceMethod yX5_gather, Cond.selects RX5 yX5_gather yX5_gather, Cond.code yX5_gather cX5_gather 7 none, Cond.fieldLink RX5 28 "ScaleGroups$Scale" "groupAt" "[I", Cond.fieldLink RX5 58 "ScaleGroups$Points" "ws" "[I", Cond.fieldLink RX5 61 "ScaleGroups$Points" "xs" "[I"]
def wsX8_tile_r4 : List Cond := [Cond.fieldLink RX5 62 "ScaleGroups$Points" "ys" "[I", Cond.fieldLink RX5 19 "ScaleGroups$Scale" "weights" "[I", Cond.fieldLink RX5 22 "ScaleGroups$Scale" "xs" "[I", Cond.fieldLink RX5 25 "ScaleGroups$Scale" "ys" "[I", Cond.methodLink RX8 254 yX5_centresIn, Cond.instanceMethod yX5_centresIn, Cond.selects RX5 yX5_centresIn yX5_centresIn, Cond.code yX5_centresIn cX5_centresIn 7 (some .int), Cond.methodLink RX8 296 yX8_filledQuarters, Cond.instanceMethod yX8_filledQuarters, Cond.selects RX8 yX8_filledQuarters yX8_filledQuarters, Cond.code yX8_filledQuarters cX8_filledQuarters 6 (some .int)]
def wsX8_tile : List Cond := .code yX8_tile cX8_tile 9 (some .int) :: ((wsX8_tile_r1 ++ (wsX8_tile_r2 ++ (wsX8_tile_r3 ++ wsX8_tile_r4))) ++ wsX80 ++ wsX20 ++ wsX40 ++ wsX50)
def wsX8_part_r1 : List Cond := [Cond.fieldLink RX8 12 "ScaleGroups" "now" "LScaleGroups$Order;", Cond.fieldLink RX8 75 "ScaleGroups$Order" "points" "LScaleGroups$Points;", Cond.fieldLink RX8 113 "ScaleGroups$Points" "count" "I", Cond.methodLink RX8 99 yX8_isPoint, Cond.instanceMethod yX8_isPoint, Cond.selects RX8 yX8_isPoint yX8_isPoint, Cond.initialized RX8, Cond.code yX8_isPoint cX8_isPoint 2 (some .boolean), Cond.methodLink RX8 299 yX2_partOf, Cond.instanceMethod yX2_partOf, Cond.selects RX2 yX2_partOf yX2_partOf, Cond.initialized RX2, Cond.code yX2_partOf cX2_partOf 4 (some .int), Cond.fieldLink RX2 18 "ScaleGroups$Order" "count" "I", Cond.methodLink RX2 99 Lib.Math.min.name, Cond.static Lib.Math.min.name, Cond.initialized "java/lang/Math", Cond.code Lib.Math.min.name Lib.Math.min.code 2 (some .int), Cond.fieldLink RX2 39 "ScaleGroups$Order" "parts" "[I", Cond.methodLink RX2 83 yX6_has, Cond.static yX6_has, Cond.initialized RX6, Cond.code yX6_has cX6_has 2 (some .boolean), Cond.methodLink RX8 219 yX6_least]
def wsX8_part_r2 : List Cond := [Cond.static yX6_least, Cond.code yX6_least cX6_least 1 (some .int), Cond.methodLink RX6 9 yX6_nth, Cond.static yX6_nth, Cond.code yX6_nth cX6_nth 4 (some .int), Cond.methodLink RX6 15 yX6_has]
def wsX8_part : List Cond := .code yX8_part cX8_part 3 (some .int) :: ((wsX8_part_r1 ++ wsX8_part_r2) ++ wsX80 ++ wsX20 ++ wsX40)
def wsX8_clearest : List Cond := .code yX8_clearest cX8_clearest 5 (some .int) :: ([.fieldLink RX8 12 "ScaleGroups" "now" "LScaleGroups$Order;", .fieldLink RX8 145 "ScaleGroups$Order" "count" "I", .fieldLink RX8 302 "ScaleGroups$Order" "roots" "[I", .fieldLink RX8 75 "ScaleGroups$Order" "points" "LScaleGroups$Points;", .fieldLink RX8 113 "ScaleGroups$Points" "count" "I"] ++ wsX80 ++ wsX20 ++ wsX40)
def wsX8_best_r1 : List Cond := [Cond.fieldLink RX8 56 "ScaleGroups" "lasting" "LScaleGroups$Lasting;", Cond.fieldLink RX8 12 "ScaleGroups" "now" "LScaleGroups$Order;", Cond.fieldLink RX8 309 "ScaleGroups$Lasting" "total" "I", Cond.fieldLink RX8 312 "ScaleGroups$Lasting" "count" "I", Cond.fieldLink RX8 75 "ScaleGroups$Order" "points" "LScaleGroups$Points;", Cond.fieldLink RX8 113 "ScaleGroups$Points" "count" "I", Cond.methodLink RX8 305 yX1_choose, Cond.instanceMethod yX1_choose, Cond.selects RX1 yX1_choose yX1_choose, Cond.initialized RX1, Cond.code yX1_choose cX1_choose 3 none, Cond.fieldLink RX1 9 "ScaleGroups$Lasting" "total" "I", Cond.fieldLink RX1 15 "ScaleGroups$Lasting" "count" "I", Cond.fieldLink RX1 29 "ScaleGroups$Order" "points" "LScaleGroups$Points;", Cond.fieldLink RX1 35 "ScaleGroups$Points" "count" "I", Cond.fieldLink RX1 26 "ScaleGroups$Lasting" "nodesByLeast" "[I", Cond.fieldLink RX1 38 "ScaleGroups$Order" "count" "I", Cond.fieldLink RX1 18 "ScaleGroups$Lasting" "totals" "[I", Cond.methodLink RX1 47 Lib.Math.max.name, Cond.static Lib.Math.max.name, Cond.initialized "java/lang/Math", Cond.code Lib.Math.max.name Lib.Math.max.code 2 (some .int), Cond.fieldLink RX1 22 "ScaleGroups$Lasting" "open" "[Z", Cond.methodLink RX1 39 yX2_lastsOf]
def wsX8_best_r2 : List Cond := [Cond.instanceMethod yX2_lastsOf, Cond.selects RX2 yX2_lastsOf yX2_lastsOf, Cond.initialized RX2, Cond.code yX2_lastsOf cX2_lastsOf 3 (some .int), Cond.fieldLink RX2 39 "ScaleGroups$Order" "parts" "[I", Cond.fieldLink RX2 30 "ScaleGroups$Order" "roots" "[I", Cond.fieldLink RX2 48 "ScaleGroups$Order" "joinsAbove" "[I", Cond.fieldLink RX2 51 "ScaleGroups$Order" "pointsAbove" "[I", Cond.methodLink RX2 126 yX2_joinOf, Cond.static yX2_joinOf, Cond.code yX2_joinOf cX2_joinOf 1 (some .int), Cond.methodLink RX2 129 yX2_weightTill, Cond.instanceMethod yX2_weightTill, Cond.selects RX2 yX2_weightTill yX2_weightTill, Cond.code yX2_weightTill cX2_weightTill 4 (some .int), Cond.fieldLink RX2 18 "ScaleGroups$Order" "count" "I", Cond.fieldLink RX2 12 "ScaleGroups$Order" "points" "LScaleGroups$Points;", Cond.methodLink RX2 133 yX4_weightOf, Cond.instanceMethod yX4_weightOf, Cond.selects RX4 yX4_weightOf yX4_weightOf, Cond.initialized RX4, Cond.code yX4_weightOf cX4_weightOf 4 (some .int), Cond.fieldLink RX4 9 "ScaleGroups$Points" "count" "I", Cond.fieldLink RX4 22 "ScaleGroups$Points" "ws" "[I"]
def wsX8_best_r3 : List Cond := [Cond.methodLink RX4 44 yX6_has, Cond.static yX6_has, Cond.initialized RX6, Cond.code yX6_has cX6_has 2 (some .boolean), Cond.methodLink RX1 43 yX1_sidesTotal, Cond.instanceMethod yX1_sidesTotal, Cond.selects RX1 yX1_sidesTotal yX1_sidesTotal, Cond.code yX1_sidesTotal cX1_sidesTotal 3 (some .int), Cond.fieldLink RX1 61 "ScaleGroups$Order" "firstSides" "[I", Cond.fieldLink RX1 67 "ScaleGroups$Order" "otherSides" "[I", Cond.methodLink RX1 64 yX1_totalOf, Cond.instanceMethod yX1_totalOf, Cond.selects RX1 yX1_totalOf yX1_totalOf, Cond.code yX1_totalOf cX1_totalOf 4 (some .int), Cond.methodLink RX1 70 yX2_joinOf, Cond.methodLink RX1 53 yX1_chooseJoins, Cond.instanceMethod yX1_chooseJoins, Cond.selects RX1 yX1_chooseJoins yX1_chooseJoins, Cond.code yX1_chooseJoins cX1_chooseJoins 3 none, Cond.methodLink RX1 57 yX1_put, Cond.instanceMethod yX1_put, Cond.selects RX1 yX1_put yX1_put, Cond.code yX1_put cX1_put 4 none, Cond.methodLink RX1 76 yX2_setOf]
def wsX8_best_r4 : List Cond := [Cond.instanceMethod yX2_setOf, Cond.selects RX2 yX2_setOf yX2_setOf, Cond.code yX2_setOf cX2_setOf 3 (some .int), Cond.methodLink RX1 79 yX6_least, Cond.static yX6_least, Cond.code yX6_least cX6_least 1 (some .int), Cond.methodLink RX6 9 yX6_nth, Cond.static yX6_nth, Cond.code yX6_nth cX6_nth 4 (some .int), Cond.methodLink RX6 15 yX6_has, Cond.methodLink RX1 73 yX1_openNode, Cond.instanceMethod yX1_openNode, Cond.selects RX1 yX1_openNode yX1_openNode, Cond.code yX1_openNode cX1_openNode 4 none, Cond.methodLink RX8 313 yX1_nth, Cond.instanceMethod yX1_nth, Cond.selects RX1 yX1_nth yX1_nth, Cond.code yX1_nth cX1_nth 5 (some .int)]
def wsX8_best : List Cond := .code yX8_best cX8_best 2 (some .int) :: ((wsX8_best_r1 ++ (wsX8_best_r2 ++ (wsX8_best_r3 ++ wsX8_best_r4))) ++ wsX80 ++ wsX10 ++ wsX20 ++ wsX40)
def wsX8_layLabels_r1 : List Cond := [Cond.fieldLink RX8 25 "ScaleGroups" "scale" "LScaleGroups$Scale;", Cond.fieldLink RX8 12 "ScaleGroups" "now" "LScaleGroups$Order;", Cond.fieldLink RX8 35 "ScaleGroups" "labels" "LScaleGroups$Labels;", Cond.fieldLink RX8 64 "ScaleGroups" "labelSize" "I", Cond.methodLink RX8 206 yX5_cut, Cond.instanceMethod yX5_cut, Cond.selects RX5 yX5_cut yX5_cut, Cond.initialized RX5, Cond.code yX5_cut cX5_cut 6 none, Cond.fieldLink RX5 9 "ScaleGroups$Scale" "count" "I", Cond.fieldLink RX5 37 "ScaleGroups$Order" "points" "LScaleGroups$Points;", Cond.fieldLink RX5 41 "ScaleGroups$Points" "count" "I", Cond.fieldLink RX5 15 "ScaleGroups$Scale" "sets" "[I", Cond.methodLink RX5 31 yX2_joinsWithin, Cond.instanceMethod yX2_joinsWithin, Cond.selects RX2 yX2_joinsWithin yX2_joinsWithin, Cond.initialized RX2, Cond.code yX2_joinsWithin cX2_joinsWithin 4 (some .int), Cond.fieldLink RX2 18 "ScaleGroups$Order" "count" "I", Cond.fieldLink RX2 26 "ScaleGroups$Order" "aparts" "[I", Cond.methodLink RX5 44 yX6_has, Cond.static yX6_has, Cond.initialized RX6, Cond.code yX6_has cX6_has 2 (some .boolean)]
def wsX8_layLabels_r2 : List Cond := [Cond.methodLink RX5 50 yX2_partOf, Cond.instanceMethod yX2_partOf, Cond.selects RX2 yX2_partOf yX2_partOf, Cond.code yX2_partOf cX2_partOf 4 (some .int), Cond.methodLink RX2 99 Lib.Math.min.name, Cond.static Lib.Math.min.name, Cond.initialized "java/lang/Math", Cond.code Lib.Math.min.name Lib.Math.min.code 2 (some .int), Cond.fieldLink RX2 39 "ScaleGroups$Order" "parts" "[I", Cond.methodLink RX2 83 yX6_has, Cond.methodLink RX5 54 yX5_gather, Cond.instanceMethod yX5_gather, Cond.selects RX5 yX5_gather yX5_gather, Cond.code yX5_gather cX5_gather 7 none, Cond.fieldLink RX5 28 "ScaleGroups$Scale" "groupAt" "[I", Cond.fieldLink RX5 58 "ScaleGroups$Points" "ws" "[I", Cond.fieldLink RX5 61 "ScaleGroups$Points" "xs" "[I", Cond.fieldLink RX5 62 "ScaleGroups$Points" "ys" "[I", Cond.fieldLink RX5 19 "ScaleGroups$Scale" "weights" "[I", Cond.fieldLink RX5 22 "ScaleGroups$Scale" "xs" "[I", Cond.fieldLink RX5 25 "ScaleGroups$Scale" "ys" "[I", Cond.methodLink RX8 353 yX0_lay, Cond.instanceMethod yX0_lay, Cond.selects RX0 yX0_lay yX0_lay]
def wsX8_layLabels_r3 : List Cond := [Cond.initialized RX0, Cond.code yX0_lay cX0_lay 6 none, Cond.fieldLink RX0 22 "ScaleGroups$Scale" "count" "I", Cond.fieldLink RX0 9 "ScaleGroups$Labels" "count" "I", Cond.fieldLink RX0 15 "ScaleGroups$Labels" "visible" "[I", Cond.fieldLink RX0 19 "ScaleGroups$Labels" "holders" "[I", Cond.methodLink RX0 25 yX6_first, Cond.static yX6_first, Cond.code yX6_first cX6_first 1 (some .int), Cond.methodLink RX0 31 yX5_heaviest, Cond.instanceMethod yX5_heaviest, Cond.selects RX5 yX5_heaviest yX5_heaviest, Cond.code yX5_heaviest cX5_heaviest 4 (some .int), Cond.methodLink RX5 63 yX5_countAhead, Cond.instanceMethod yX5_countAhead, Cond.selects RX5 yX5_countAhead yX5_countAhead, Cond.code yX5_countAhead cX5_countAhead 6 (some .int), Cond.methodLink RX0 35 yX0_isClear, Cond.instanceMethod yX0_isClear, Cond.selects RX0 yX0_isClear yX0_isClear, Cond.code yX0_isClear cX0_isClear 5 (some .boolean), Cond.methodLink RX0 39 yX0_nearestTo, Cond.instanceMethod yX0_nearestTo, Cond.selects RX0 yX0_nearestTo yX0_nearestTo]
def wsX8_layLabels_r4 : List Cond := [Cond.code yX0_nearestTo cX0_nearestTo 7 (some .int), Cond.methodLink RX0 43 yX5_gap, Cond.instanceMethod yX5_gap, Cond.selects RX5 yX5_gap yX5_gap, Cond.code yX5_gap cX5_gap 3 (some .int), Cond.methodLink RX5 66 yX6_farther, Cond.static yX6_farther, Cond.code yX6_farther cX6_farther 2 (some .int), Cond.methodLink RX6 27 Lib.Math.abs.name, Cond.static Lib.Math.abs.name, Cond.code Lib.Math.abs.name Lib.Math.abs.code 1 (some .int), Cond.methodLink RX6 24 Lib.Math.max.name, Cond.static Lib.Math.max.name, Cond.code Lib.Math.max.name Lib.Math.max.code 2 (some .int)]
def wsX8_layLabels : List Cond := .code yX8_layLabels cX8_layLabels 2 none :: ((wsX8_layLabels_r1 ++ (wsX8_layLabels_r2 ++ (wsX8_layLabels_r3 ++ wsX8_layLabels_r4))) ++ wsX80 ++ wsX50 ++ wsX20 ++ wsX40 ++ wsX00)
def wsX8_shown_r1 : List Cond := [Cond.fieldLink RX8 35 "ScaleGroups" "labels" "LScaleGroups$Labels;", Cond.fieldLink RX8 317 "ScaleGroups$Labels" "count" "I", Cond.methodLink RX8 203 yX8_isZoom, Cond.static yX8_isZoom, Cond.initialized RX8, Cond.code yX8_isZoom cX8_isZoom 1 (some .boolean), Cond.methodLink RX8 314 yX8_layLabels, Cond.instanceMethod yX8_layLabels, Cond.selects RX8 yX8_layLabels yX8_layLabels, Cond.code yX8_layLabels cX8_layLabels 2 none, Cond.fieldLink RX8 25 "ScaleGroups" "scale" "LScaleGroups$Scale;", Cond.fieldLink RX8 12 "ScaleGroups" "now" "LScaleGroups$Order;", Cond.fieldLink RX8 64 "ScaleGroups" "labelSize" "I", Cond.methodLink RX8 206 yX5_cut, Cond.instanceMethod yX5_cut, Cond.selects RX5 yX5_cut yX5_cut, Cond.initialized RX5, Cond.code yX5_cut cX5_cut 6 none, Cond.fieldLink RX5 9 "ScaleGroups$Scale" "count" "I", Cond.fieldLink RX5 37 "ScaleGroups$Order" "points" "LScaleGroups$Points;", Cond.fieldLink RX5 41 "ScaleGroups$Points" "count" "I", Cond.fieldLink RX5 15 "ScaleGroups$Scale" "sets" "[I", Cond.methodLink RX5 31 yX2_joinsWithin, Cond.instanceMethod yX2_joinsWithin]
def wsX8_shown_r2 : List Cond := [Cond.selects RX2 yX2_joinsWithin yX2_joinsWithin, Cond.initialized RX2, Cond.code yX2_joinsWithin cX2_joinsWithin 4 (some .int), Cond.fieldLink RX2 18 "ScaleGroups$Order" "count" "I", Cond.fieldLink RX2 26 "ScaleGroups$Order" "aparts" "[I", Cond.methodLink RX5 44 yX6_has, Cond.static yX6_has, Cond.initialized RX6, Cond.code yX6_has cX6_has 2 (some .boolean), Cond.methodLink RX5 50 yX2_partOf, Cond.instanceMethod yX2_partOf, Cond.selects RX2 yX2_partOf yX2_partOf, Cond.code yX2_partOf cX2_partOf 4 (some .int), Cond.methodLink RX2 99 Lib.Math.min.name, Cond.static Lib.Math.min.name, Cond.initialized "java/lang/Math", Cond.code Lib.Math.min.name Lib.Math.min.code 2 (some .int), Cond.fieldLink RX2 39 "ScaleGroups$Order" "parts" "[I", Cond.methodLink RX2 83 yX6_has, Cond.methodLink RX5 54 yX5_gather, Cond.instanceMethod yX5_gather, Cond.selects RX5 yX5_gather yX5_gather, Cond.code yX5_gather cX5_gather 7 none, Cond.fieldLink RX5 28 "ScaleGroups$Scale" "groupAt" "[I"]
def wsX8_shown_r3 : List Cond := [Cond.fieldLink RX5 58 "ScaleGroups$Points" "ws" "[I", Cond.fieldLink RX5 61 "ScaleGroups$Points" "xs" "[I", Cond.fieldLink RX5 62 "ScaleGroups$Points" "ys" "[I", Cond.fieldLink RX5 19 "ScaleGroups$Scale" "weights" "[I", Cond.fieldLink RX5 22 "ScaleGroups$Scale" "xs" "[I", Cond.fieldLink RX5 25 "ScaleGroups$Scale" "ys" "[I", Cond.methodLink RX8 353 yX0_lay, Cond.instanceMethod yX0_lay, Cond.selects RX0 yX0_lay yX0_lay, Cond.initialized RX0, Cond.code yX0_lay cX0_lay 6 none, Cond.fieldLink RX0 22 "ScaleGroups$Scale" "count" "I", Cond.fieldLink RX0 9 "ScaleGroups$Labels" "count" "I", Cond.fieldLink RX0 15 "ScaleGroups$Labels" "visible" "[I", Cond.fieldLink RX0 19 "ScaleGroups$Labels" "holders" "[I", Cond.methodLink RX0 25 yX6_first, Cond.static yX6_first, Cond.code yX6_first cX6_first 1 (some .int), Cond.methodLink RX0 31 yX5_heaviest, Cond.instanceMethod yX5_heaviest, Cond.selects RX5 yX5_heaviest yX5_heaviest, Cond.code yX5_heaviest cX5_heaviest 4 (some .int), Cond.methodLink RX5 63 yX5_countAhead, Cond.instanceMethod yX5_countAhead]
def wsX8_shown_r4 : List Cond := [Cond.selects RX5 yX5_countAhead yX5_countAhead, Cond.code yX5_countAhead cX5_countAhead 6 (some .int), Cond.methodLink RX0 35 yX0_isClear, Cond.instanceMethod yX0_isClear, Cond.selects RX0 yX0_isClear yX0_isClear, Cond.code yX0_isClear cX0_isClear 5 (some .boolean), Cond.methodLink RX0 39 yX0_nearestTo, Cond.instanceMethod yX0_nearestTo, Cond.selects RX0 yX0_nearestTo yX0_nearestTo, Cond.code yX0_nearestTo cX0_nearestTo 7 (some .int), Cond.methodLink RX0 43 yX5_gap, Cond.instanceMethod yX5_gap, Cond.selects RX5 yX5_gap yX5_gap, Cond.code yX5_gap cX5_gap 3 (some .int), Cond.methodLink RX5 66 yX6_farther, Cond.static yX6_farther, Cond.code yX6_farther cX6_farther 2 (some .int), Cond.methodLink RX6 27 Lib.Math.abs.name, Cond.static Lib.Math.abs.name, Cond.code Lib.Math.abs.name Lib.Math.abs.code 1 (some .int), Cond.methodLink RX6 24 Lib.Math.max.name, Cond.static Lib.Math.max.name, Cond.code Lib.Math.max.name Lib.Math.max.code 2 (some .int)]
def wsX8_shown : List Cond := .code yX8_shown cX8_shown 2 (some .int) :: ((wsX8_shown_r1 ++ (wsX8_shown_r2 ++ (wsX8_shown_r3 ++ wsX8_shown_r4))) ++ wsX80 ++ wsX00 ++ wsX50 ++ wsX20 ++ wsX40)
def wsX8_label_r1 : List Cond := [Cond.fieldLink RX8 35 "ScaleGroups" "labels" "LScaleGroups$Labels;", Cond.fieldLink RX8 317 "ScaleGroups$Labels" "count" "I", Cond.fieldLink RX8 25 "ScaleGroups" "scale" "LScaleGroups$Scale;", Cond.fieldLink RX8 283 "ScaleGroups$Scale" "count" "I", Cond.fieldLink RX8 321 "ScaleGroups$Labels" "visible" "[I", Cond.methodLink RX8 203 yX8_isZoom, Cond.static yX8_isZoom, Cond.initialized RX8, Cond.code yX8_isZoom cX8_isZoom 1 (some .boolean), Cond.methodLink RX8 314 yX8_layLabels, Cond.instanceMethod yX8_layLabels, Cond.selects RX8 yX8_layLabels yX8_layLabels, Cond.code yX8_layLabels cX8_layLabels 2 none, Cond.fieldLink RX8 12 "ScaleGroups" "now" "LScaleGroups$Order;", Cond.fieldLink RX8 64 "ScaleGroups" "labelSize" "I", Cond.methodLink RX8 206 yX5_cut, Cond.instanceMethod yX5_cut, Cond.selects RX5 yX5_cut yX5_cut, Cond.initialized RX5, Cond.code yX5_cut cX5_cut 6 none, Cond.fieldLink RX5 9 "ScaleGroups$Scale" "count" "I", Cond.fieldLink RX5 37 "ScaleGroups$Order" "points" "LScaleGroups$Points;", Cond.fieldLink RX5 41 "ScaleGroups$Points" "count" "I", Cond.fieldLink RX5 15 "ScaleGroups$Scale" "sets" "[I"]
def wsX8_label_r2 : List Cond := [Cond.methodLink RX5 31 yX2_joinsWithin, Cond.instanceMethod yX2_joinsWithin, Cond.selects RX2 yX2_joinsWithin yX2_joinsWithin, Cond.initialized RX2, Cond.code yX2_joinsWithin cX2_joinsWithin 4 (some .int), Cond.fieldLink RX2 18 "ScaleGroups$Order" "count" "I", Cond.fieldLink RX2 26 "ScaleGroups$Order" "aparts" "[I", Cond.methodLink RX5 44 yX6_has, Cond.static yX6_has, Cond.initialized RX6, Cond.code yX6_has cX6_has 2 (some .boolean), Cond.methodLink RX5 50 yX2_partOf, Cond.instanceMethod yX2_partOf, Cond.selects RX2 yX2_partOf yX2_partOf, Cond.code yX2_partOf cX2_partOf 4 (some .int), Cond.methodLink RX2 99 Lib.Math.min.name, Cond.static Lib.Math.min.name, Cond.initialized "java/lang/Math", Cond.code Lib.Math.min.name Lib.Math.min.code 2 (some .int), Cond.fieldLink RX2 39 "ScaleGroups$Order" "parts" "[I", Cond.methodLink RX2 83 yX6_has, Cond.methodLink RX5 54 yX5_gather, Cond.instanceMethod yX5_gather, Cond.selects RX5 yX5_gather yX5_gather]
def wsX8_label_r3 : List Cond := [Cond.code yX5_gather cX5_gather 7 none, Cond.fieldLink RX5 28 "ScaleGroups$Scale" "groupAt" "[I", Cond.fieldLink RX5 58 "ScaleGroups$Points" "ws" "[I", Cond.fieldLink RX5 61 "ScaleGroups$Points" "xs" "[I", Cond.fieldLink RX5 62 "ScaleGroups$Points" "ys" "[I", Cond.fieldLink RX5 19 "ScaleGroups$Scale" "weights" "[I", Cond.fieldLink RX5 22 "ScaleGroups$Scale" "xs" "[I", Cond.fieldLink RX5 25 "ScaleGroups$Scale" "ys" "[I", Cond.methodLink RX8 353 yX0_lay, Cond.instanceMethod yX0_lay, Cond.selects RX0 yX0_lay yX0_lay, Cond.initialized RX0, Cond.code yX0_lay cX0_lay 6 none, Cond.fieldLink RX0 22 "ScaleGroups$Scale" "count" "I", Cond.fieldLink RX0 9 "ScaleGroups$Labels" "count" "I", Cond.fieldLink RX0 15 "ScaleGroups$Labels" "visible" "[I", Cond.fieldLink RX0 19 "ScaleGroups$Labels" "holders" "[I", Cond.methodLink RX0 25 yX6_first, Cond.static yX6_first, Cond.code yX6_first cX6_first 1 (some .int), Cond.methodLink RX0 31 yX5_heaviest, Cond.instanceMethod yX5_heaviest, Cond.selects RX5 yX5_heaviest yX5_heaviest, Cond.code yX5_heaviest cX5_heaviest 4 (some .int)]
def wsX8_label_r4 : List Cond := [Cond.methodLink RX5 63 yX5_countAhead, Cond.instanceMethod yX5_countAhead, Cond.selects RX5 yX5_countAhead yX5_countAhead, Cond.code yX5_countAhead cX5_countAhead 6 (some .int), Cond.methodLink RX0 35 yX0_isClear, Cond.instanceMethod yX0_isClear, Cond.selects RX0 yX0_isClear yX0_isClear, Cond.code yX0_isClear cX0_isClear 5 (some .boolean), Cond.methodLink RX0 39 yX0_nearestTo, Cond.instanceMethod yX0_nearestTo, Cond.selects RX0 yX0_nearestTo yX0_nearestTo, Cond.code yX0_nearestTo cX0_nearestTo 7 (some .int), Cond.methodLink RX0 43 yX5_gap, Cond.instanceMethod yX5_gap, Cond.selects RX5 yX5_gap yX5_gap, Cond.code yX5_gap cX5_gap 3 (some .int), Cond.methodLink RX5 66 yX6_farther, Cond.static yX6_farther, Cond.code yX6_farther cX6_farther 2 (some .int), Cond.methodLink RX6 27 Lib.Math.abs.name, Cond.static Lib.Math.abs.name, Cond.code Lib.Math.abs.name Lib.Math.abs.code 1 (some .int), Cond.methodLink RX6 24 Lib.Math.max.name, Cond.static Lib.Math.max.name]
def wsX8_label_r5 : List Cond := [Cond.code Lib.Math.max.name Lib.Math.max.code 2 (some .int), Cond.methodLink RX8 318 yX0_countedWith, Cond.instanceMethod yX0_countedWith, Cond.selects RX0 yX0_countedWith yX0_countedWith, Cond.code yX0_countedWith cX0_countedWith 5 (some .int), Cond.methodLink RX8 261 yX5_weightOf, Cond.instanceMethod yX5_weightOf, Cond.selects RX5 yX5_weightOf yX5_weightOf, Cond.code yX5_weightOf cX5_weightOf 4 (some .int), Cond.methodLink RX8 158 yJ6_bitCount_0f7a4, Cond.static yJ6_bitCount_0f7a4, Cond.initialized RJ6, Cond.code yJ6_bitCount_0f7a4 cJ6_bitCount_0f7a4 1 (some .int), Cond.constant RJ6 265 (1431655765), Cond.constant RJ6 266 (858993459), Cond.constant RJ6 267 (252645135)]
def wsX8_label : List Cond := .code yX8_label cX8_label 5 (some .int) :: ((wsX8_label_r1 ++ (wsX8_label_r2 ++ (wsX8_label_r3 ++ (wsX8_label_r4 ++ wsX8_label_r5)))) ++ wsX80 ++ wsX00 ++ wsX50 ++ wsX20 ++ wsX40)
def wsX8_counted_r1 : List Cond := [Cond.fieldLink RX8 25 "ScaleGroups" "scale" "LScaleGroups$Scale;", Cond.fieldLink RX8 283 "ScaleGroups$Scale" "count" "I", Cond.fieldLink RX8 35 "ScaleGroups" "labels" "LScaleGroups$Labels;", Cond.fieldLink RX8 324 "ScaleGroups$Labels" "holders" "[I", Cond.fieldLink RX8 317 "ScaleGroups$Labels" "count" "I", Cond.fieldLink RX8 321 "ScaleGroups$Labels" "visible" "[I", Cond.methodLink RX8 203 yX8_isZoom, Cond.static yX8_isZoom, Cond.initialized RX8, Cond.code yX8_isZoom cX8_isZoom 1 (some .boolean), Cond.methodLink RX8 314 yX8_layLabels, Cond.instanceMethod yX8_layLabels, Cond.selects RX8 yX8_layLabels yX8_layLabels, Cond.code yX8_layLabels cX8_layLabels 2 none, Cond.fieldLink RX8 12 "ScaleGroups" "now" "LScaleGroups$Order;", Cond.fieldLink RX8 64 "ScaleGroups" "labelSize" "I", Cond.methodLink RX8 206 yX5_cut, Cond.instanceMethod yX5_cut, Cond.selects RX5 yX5_cut yX5_cut, Cond.initialized RX5, Cond.code yX5_cut cX5_cut 6 none, Cond.fieldLink RX5 9 "ScaleGroups$Scale" "count" "I", Cond.fieldLink RX5 37 "ScaleGroups$Order" "points" "LScaleGroups$Points;", Cond.fieldLink RX5 41 "ScaleGroups$Points" "count" "I"]
def wsX8_counted_r2 : List Cond := [Cond.fieldLink RX5 15 "ScaleGroups$Scale" "sets" "[I", Cond.methodLink RX5 31 yX2_joinsWithin, Cond.instanceMethod yX2_joinsWithin, Cond.selects RX2 yX2_joinsWithin yX2_joinsWithin, Cond.initialized RX2, Cond.code yX2_joinsWithin cX2_joinsWithin 4 (some .int), Cond.fieldLink RX2 18 "ScaleGroups$Order" "count" "I", Cond.fieldLink RX2 26 "ScaleGroups$Order" "aparts" "[I", Cond.methodLink RX5 44 yX6_has, Cond.static yX6_has, Cond.initialized RX6, Cond.code yX6_has cX6_has 2 (some .boolean), Cond.methodLink RX5 50 yX2_partOf, Cond.instanceMethod yX2_partOf, Cond.selects RX2 yX2_partOf yX2_partOf, Cond.code yX2_partOf cX2_partOf 4 (some .int), Cond.methodLink RX2 99 Lib.Math.min.name, Cond.static Lib.Math.min.name, Cond.initialized "java/lang/Math", Cond.code Lib.Math.min.name Lib.Math.min.code 2 (some .int), Cond.fieldLink RX2 39 "ScaleGroups$Order" "parts" "[I", Cond.methodLink RX2 83 yX6_has, Cond.methodLink RX5 54 yX5_gather, Cond.instanceMethod yX5_gather]
def wsX8_counted_r3 : List Cond := [Cond.selects RX5 yX5_gather yX5_gather, Cond.code yX5_gather cX5_gather 7 none, Cond.fieldLink RX5 28 "ScaleGroups$Scale" "groupAt" "[I", Cond.fieldLink RX5 58 "ScaleGroups$Points" "ws" "[I", Cond.fieldLink RX5 61 "ScaleGroups$Points" "xs" "[I", Cond.fieldLink RX5 62 "ScaleGroups$Points" "ys" "[I", Cond.fieldLink RX5 19 "ScaleGroups$Scale" "weights" "[I", Cond.fieldLink RX5 22 "ScaleGroups$Scale" "xs" "[I", Cond.fieldLink RX5 25 "ScaleGroups$Scale" "ys" "[I", Cond.methodLink RX8 353 yX0_lay, Cond.instanceMethod yX0_lay, Cond.selects RX0 yX0_lay yX0_lay, Cond.initialized RX0, Cond.code yX0_lay cX0_lay 6 none, Cond.fieldLink RX0 22 "ScaleGroups$Scale" "count" "I", Cond.fieldLink RX0 9 "ScaleGroups$Labels" "count" "I", Cond.fieldLink RX0 15 "ScaleGroups$Labels" "visible" "[I", Cond.fieldLink RX0 19 "ScaleGroups$Labels" "holders" "[I", Cond.methodLink RX0 25 yX6_first, Cond.static yX6_first, Cond.code yX6_first cX6_first 1 (some .int), Cond.methodLink RX0 31 yX5_heaviest, Cond.instanceMethod yX5_heaviest, Cond.selects RX5 yX5_heaviest yX5_heaviest]
def wsX8_counted_r4 : List Cond := [Cond.code yX5_heaviest cX5_heaviest 4 (some .int), Cond.methodLink RX5 63 yX5_countAhead, Cond.instanceMethod yX5_countAhead, Cond.selects RX5 yX5_countAhead yX5_countAhead, Cond.code yX5_countAhead cX5_countAhead 6 (some .int), Cond.methodLink RX0 35 yX0_isClear, Cond.instanceMethod yX0_isClear, Cond.selects RX0 yX0_isClear yX0_isClear, Cond.code yX0_isClear cX0_isClear 5 (some .boolean), Cond.methodLink RX0 39 yX0_nearestTo, Cond.instanceMethod yX0_nearestTo, Cond.selects RX0 yX0_nearestTo yX0_nearestTo, Cond.code yX0_nearestTo cX0_nearestTo 7 (some .int), Cond.methodLink RX0 43 yX5_gap, Cond.instanceMethod yX5_gap, Cond.selects RX5 yX5_gap yX5_gap, Cond.code yX5_gap cX5_gap 3 (some .int), Cond.methodLink RX5 66 yX6_farther, Cond.static yX6_farther, Cond.code yX6_farther cX6_farther 2 (some .int), Cond.methodLink RX6 27 Lib.Math.abs.name, Cond.static Lib.Math.abs.name, Cond.code Lib.Math.abs.name Lib.Math.abs.code 1 (some .int), Cond.methodLink RX6 24 Lib.Math.max.name]
def wsX8_counted_r5 : List Cond := [Cond.static Lib.Math.max.name, Cond.code Lib.Math.max.name Lib.Math.max.code 2 (some .int)]
def wsX8_counted : List Cond := .code yX8_counted cX8_counted 4 (some .int) :: ((wsX8_counted_r1 ++ (wsX8_counted_r2 ++ (wsX8_counted_r3 ++ (wsX8_counted_r4 ++ wsX8_counted_r5)))) ++ wsX80 ++ wsX50 ++ wsX00 ++ wsX20 ++ wsX40)
def wsX8_repaired : List Cond := .code yX8_repaired cX8_repaired 2 (some .int) :: ([.fieldLink RX8 12 "ScaleGroups" "now" "LScaleGroups$Order;", .fieldLink RX8 16 "ScaleGroups" "ahead" "LScaleGroups$Order;", .methodLink RX8 95 yX2_countUnlike, .instanceMethod yX2_countUnlike, .selects RX2 yX2_countUnlike yX2_countUnlike, .initialized RX2, .code yX2_countUnlike cX2_countUnlike 4 (some .int), .fieldLink RX2 18 "ScaleGroups$Order" "count" "I", .fieldLink RX2 54 "ScaleGroups$Order" "pairs" "[J", .methodLink RX2 139 yX2_hasPair, .instanceMethod yX2_hasPair, .selects RX2 yX2_hasPair yX2_hasPair, .code yX2_hasPair cX2_hasPair 4 (some .boolean), .methodLink RX8 327 yX2_sumAparts, .instanceMethod yX2_sumAparts, .selects RX2 yX2_sumAparts yX2_sumAparts, .code yX2_sumAparts cX2_sumAparts 3 (some .int), .fieldLink RX2 26 "ScaleGroups$Order" "aparts" "[I", .methodLink RX8 331 yX2_sameFromFirst, .instanceMethod yX2_sameFromFirst, .selects RX2 yX2_sameFromFirst yX2_sameFromFirst, .code yX2_sameFromFirst cX2_sameFromFirst 3 (some .int)] ++ wsX80 ++ wsX20)
def wsX8_would_r1 : List Cond := [Cond.fieldLink RX8 12 "ScaleGroups" "now" "LScaleGroups$Order;", Cond.fieldLink RX8 75 "ScaleGroups$Order" "points" "LScaleGroups$Points;", Cond.constant RX8 334 (-10000000), Cond.fieldLink RX8 19 "ScaleGroups" "tried" "LScaleGroups$Order;", Cond.methodLink RX8 79 yX4_canCome, Cond.instanceMethod yX4_canCome, Cond.selects RX4 yX4_canCome yX4_canCome, Cond.initialized RX4, Cond.code yX4_canCome cX4_canCome 3 (some .boolean), Cond.fieldLink RX4 9 "ScaleGroups$Points" "count" "I", Cond.methodLink RX4 25 yX4_find, Cond.instanceMethod yX4_find, Cond.selects RX4 yX4_find yX4_find, Cond.code yX4_find cX4_find 4 (some .int), Cond.fieldLink RX4 15 "ScaleGroups$Points" "xs" "[I", Cond.fieldLink RX4 19 "ScaleGroups$Points" "ys" "[I", Cond.methodLink RX8 335 yX4_copy, Cond.instanceMethod yX4_copy, Cond.selects RX4 yX4_copy yX4_copy, Cond.code yX4_copy cX4_copy 3 none, Cond.fieldLink RX4 22 "ScaleGroups$Points" "ws" "[I", Cond.methodLink RX8 88 yX4_put, Cond.instanceMethod yX4_put, Cond.selects RX4 yX4_put yX4_put]
def wsX8_would_r2 : List Cond := [Cond.code yX4_put cX4_put 5 none, Cond.methodLink RX4 29 yX4_move, Cond.instanceMethod yX4_move, Cond.selects RX4 yX4_move yX4_move, Cond.code yX4_move cX4_move 3 none, Cond.methodLink RX8 92 yX2_rebuild, Cond.instanceMethod yX2_rebuild, Cond.selects RX2 yX2_rebuild yX2_rebuild, Cond.initialized RX2, Cond.code yX2_rebuild cX2_rebuild 2 none, Cond.fieldLink RX2 12 "ScaleGroups$Order" "points" "LScaleGroups$Points;", Cond.fieldLink RX2 66 "ScaleGroups$Points" "count" "I", Cond.fieldLink RX2 60 "ScaleGroups$Order" "nodes" "[I", Cond.fieldLink RX2 51 "ScaleGroups$Order" "pointsAbove" "[I", Cond.fieldLink RX2 18 "ScaleGroups$Order" "count" "I", Cond.methodLink RX2 63 yX2_growTree, Cond.instanceMethod yX2_growTree, Cond.selects RX2 yX2_growTree yX2_growTree, Cond.code yX2_growTree cX2_growTree 5 none, Cond.fieldLink RX2 57 "ScaleGroups$Order" "links" "[J", Cond.methodLink RX2 89 Lib.MathLoose.min_long.x, Cond.static Lib.MathLoose.min_long.x, Cond.initialized "java/lang/Math", Cond.code Lib.MathLoose.min_long.x Lib.MathLoose.min_long.code 4 (some .long)]
def wsX8_would_r3 : List Cond := [Cond.methodLink RX2 71 yX2_keyOf, Cond.instanceMethod yX2_keyOf, Cond.selects RX2 yX2_keyOf yX2_keyOf, Cond.code yX2_keyOf cX2_keyOf 3 (some .long), Cond.methodLink RX2 99 Lib.Math.min.name, Cond.static Lib.Math.min.name, Cond.code Lib.Math.min.name Lib.Math.min.code 2 (some .int), Cond.methodLink RX2 101 Lib.Math.max.name, Cond.static Lib.Math.max.name, Cond.code Lib.Math.max.name Lib.Math.max.code 2 (some .int), Cond.methodLink RX2 95 yX4_apart, Cond.instanceMethod yX4_apart, Cond.selects RX4 yX4_apart yX4_apart, Cond.code yX4_apart cX4_apart 3 (some .int), Cond.methodLink RX4 33 yX4_squares, Cond.instanceMethod yX4_squares, Cond.selects RX4 yX4_squares yX4_squares, Cond.code yX4_squares cX4_squares 6 (some .int), Cond.methodLink RX2 75 yX2_nextToGrow, Cond.instanceMethod yX2_nextToGrow, Cond.selects RX2 yX2_nextToGrow yX2_nextToGrow, Cond.code yX2_nextToGrow cX2_nextToGrow 4 (some .int), Cond.methodLink RX2 83 yX6_has, Cond.static yX6_has]
def wsX8_would_r4 : List Cond := [Cond.initialized RX6, Cond.code yX6_has cX6_has 2 (some .boolean), Cond.methodLink RX2 79 yX2_putKey, Cond.instanceMethod yX2_putKey, Cond.selects RX2 yX2_putKey yX2_putKey, Cond.code yX2_putKey cX2_putKey 4 none, Cond.fieldLink RX2 22 "ScaleGroups$Order" "keys" "[J", Cond.methodLink RX2 67 yX2_makeJoin, Cond.instanceMethod yX2_makeJoin, Cond.selects RX2 yX2_makeJoin yX2_makeJoin, Cond.code yX2_makeJoin cX2_makeJoin 5 none, Cond.constantLong RX2 104 (31), Cond.fieldLink RX2 26 "ScaleGroups$Order" "aparts" "[I", Cond.fieldLink RX2 30 "ScaleGroups$Order" "roots" "[I", Cond.fieldLink RX2 33 "ScaleGroups$Order" "firsts" "[I", Cond.fieldLink RX2 36 "ScaleGroups$Order" "seconds" "[I", Cond.fieldLink RX2 54 "ScaleGroups$Order" "pairs" "[J", Cond.fieldLink RX2 42 "ScaleGroups$Order" "firstSides" "[I", Cond.fieldLink RX2 45 "ScaleGroups$Order" "otherSides" "[I", Cond.fieldLink RX2 39 "ScaleGroups$Order" "parts" "[I", Cond.fieldLink RX2 48 "ScaleGroups$Order" "joinsAbove" "[I", Cond.methodLink RX2 106 yX6_root, Cond.static yX6_root, Cond.code yX6_root cX6_root 4 (some .int)]
def wsX8_would_r5 : List Cond := [Cond.methodLink RX2 109 yX2_placeOf, Cond.instanceMethod yX2_placeOf, Cond.selects RX2 yX2_placeOf yX2_placeOf, Cond.code yX2_placeOf cX2_placeOf 2 (some .long), Cond.fieldLink RX2 120 "ScaleGroups$Points" "xs" "[I", Cond.fieldLink RX2 123 "ScaleGroups$Points" "ys" "[I", Cond.methodLink RX2 113 yX2_setOf, Cond.instanceMethod yX2_setOf, Cond.selects RX2 yX2_setOf yX2_setOf, Cond.code yX2_setOf cX2_setOf 3 (some .int), Cond.methodLink RX2 126 yX2_joinOf, Cond.static yX2_joinOf, Cond.code yX2_joinOf cX2_joinOf 1 (some .int), Cond.methodLink RX2 116 yX2_putBelow, Cond.instanceMethod yX2_putBelow, Cond.selects RX2 yX2_putBelow yX2_putBelow, Cond.code yX2_putBelow cX2_putBelow 4 none, Cond.methodLink RX8 95 yX2_countUnlike, Cond.instanceMethod yX2_countUnlike, Cond.selects RX2 yX2_countUnlike yX2_countUnlike, Cond.code yX2_countUnlike cX2_countUnlike 4 (some .int), Cond.methodLink RX2 139 yX2_hasPair, Cond.instanceMethod yX2_hasPair, Cond.selects RX2 yX2_hasPair yX2_hasPair]
def wsX8_would_r6 : List Cond := [Cond.code yX2_hasPair cX2_hasPair 4 (some .boolean), Cond.methodLink RX8 327 yX2_sumAparts, Cond.instanceMethod yX2_sumAparts, Cond.selects RX2 yX2_sumAparts yX2_sumAparts, Cond.code yX2_sumAparts cX2_sumAparts 3 (some .int)]
def wsX8_would : List Cond := .code yX8_would cX8_would 4 (some .int) :: ((wsX8_would_r1 ++ (wsX8_would_r2 ++ (wsX8_would_r3 ++ (wsX8_would_r4 ++ (wsX8_would_r5 ++ wsX8_would_r6))))) ++ wsX80 ++ wsX20 ++ wsX40)
def wsX8_stirred_r1 : List Cond := [Cond.fieldLink RX8 25 "ScaleGroups" "scale" "LScaleGroups$Scale;", Cond.fieldLink RX8 12 "ScaleGroups" "now" "LScaleGroups$Order;", Cond.fieldLink RX8 29 "ScaleGroups" "other" "LScaleGroups$Scale;", Cond.fieldLink RX8 16 "ScaleGroups" "ahead" "LScaleGroups$Order;", Cond.fieldLink RX8 75 "ScaleGroups$Order" "points" "LScaleGroups$Points;", Cond.fieldLink RX8 113 "ScaleGroups$Points" "count" "I", Cond.fieldLink RX8 60 "ScaleGroups" "row" "[I", Cond.fieldLink RX8 116 "ScaleGroups$Points" "xs" "[I", Cond.fieldLink RX8 119 "ScaleGroups$Points" "ys" "[I", Cond.fieldLink RX8 210 "ScaleGroups$Scale" "groupAt" "[I", Cond.methodLink RX8 203 yX8_isZoom, Cond.static yX8_isZoom, Cond.initialized RX8, Cond.code yX8_isZoom cX8_isZoom 1 (some .boolean), Cond.methodLink RX8 206 yX5_cut, Cond.instanceMethod yX5_cut, Cond.selects RX5 yX5_cut yX5_cut, Cond.initialized RX5, Cond.code yX5_cut cX5_cut 6 none, Cond.fieldLink RX5 9 "ScaleGroups$Scale" "count" "I", Cond.fieldLink RX5 37 "ScaleGroups$Order" "points" "LScaleGroups$Points;", Cond.fieldLink RX5 41 "ScaleGroups$Points" "count" "I", Cond.fieldLink RX5 15 "ScaleGroups$Scale" "sets" "[I", Cond.methodLink RX5 31 yX2_joinsWithin]
def wsX8_stirred_r2 : List Cond := [Cond.instanceMethod yX2_joinsWithin, Cond.selects RX2 yX2_joinsWithin yX2_joinsWithin, Cond.initialized RX2, Cond.code yX2_joinsWithin cX2_joinsWithin 4 (some .int), Cond.fieldLink RX2 18 "ScaleGroups$Order" "count" "I", Cond.fieldLink RX2 26 "ScaleGroups$Order" "aparts" "[I", Cond.methodLink RX5 44 yX6_has, Cond.static yX6_has, Cond.initialized RX6, Cond.code yX6_has cX6_has 2 (some .boolean), Cond.methodLink RX5 50 yX2_partOf, Cond.instanceMethod yX2_partOf, Cond.selects RX2 yX2_partOf yX2_partOf, Cond.code yX2_partOf cX2_partOf 4 (some .int), Cond.methodLink RX2 99 Lib.Math.min.name, Cond.static Lib.Math.min.name, Cond.initialized "java/lang/Math", Cond.code Lib.Math.min.name Lib.Math.min.code 2 (some .int), Cond.fieldLink RX2 39 "ScaleGroups$Order" "parts" "[I", Cond.methodLink RX2 83 yX6_has, Cond.methodLink RX5 54 yX5_gather, Cond.instanceMethod yX5_gather, Cond.selects RX5 yX5_gather yX5_gather, Cond.code yX5_gather cX5_gather 7 none]
def wsX8_stirred_r3 : List Cond := [Cond.fieldLink RX5 28 "ScaleGroups$Scale" "groupAt" "[I", Cond.fieldLink RX5 58 "ScaleGroups$Points" "ws" "[I", Cond.fieldLink RX5 61 "ScaleGroups$Points" "xs" "[I", Cond.fieldLink RX5 62 "ScaleGroups$Points" "ys" "[I", Cond.fieldLink RX5 19 "ScaleGroups$Scale" "weights" "[I", Cond.fieldLink RX5 22 "ScaleGroups$Scale" "xs" "[I", Cond.fieldLink RX5 25 "ScaleGroups$Scale" "ys" "[I", Cond.methodLink RX8 131 yX4_find, Cond.instanceMethod yX4_find, Cond.selects RX4 yX4_find yX4_find, Cond.initialized RX4, Cond.code yX4_find cX4_find 4 (some .int), Cond.fieldLink RX4 9 "ScaleGroups$Points" "count" "I", Cond.fieldLink RX4 15 "ScaleGroups$Points" "xs" "[I", Cond.fieldLink RX4 19 "ScaleGroups$Points" "ys" "[I"]
def wsX8_stirred : List Cond := .code yX8_stirred cX8_stirred 7 (some .int) :: ((wsX8_stirred_r1 ++ (wsX8_stirred_r2 ++ wsX8_stirred_r3)) ++ wsX80 ++ wsX20 ++ wsX40 ++ wsX50)
def wsX8_groupsOfAllZooms : List Cond := .code yX8_groupsOfAllZooms cX8_groupsOfAllZooms 3 (some .int) :: ([.methodLink RX8 357 yX8_groups, .instanceMethod yX8_groups, .selects RX8 yX8_groups yX8_groups, .initialized RX8, .code yX8_groups cX8_groups 2 (some .int), .fieldLink RX8 12 "ScaleGroups" "now" "LScaleGroups$Order;", .fieldLink RX8 75 "ScaleGroups$Order" "points" "LScaleGroups$Points;", .fieldLink RX8 113 "ScaleGroups$Points" "count" "I", .methodLink RX8 203 yX8_isZoom, .static yX8_isZoom, .code yX8_isZoom cX8_isZoom 1 (some .boolean), .methodLink RX8 200 yX2_joinsWithin, .instanceMethod yX2_joinsWithin, .selects RX2 yX2_joinsWithin yX2_joinsWithin, .initialized RX2, .code yX2_joinsWithin cX2_joinsWithin 4 (some .int), .fieldLink RX2 18 "ScaleGroups$Order" "count" "I", .fieldLink RX2 26 "ScaleGroups$Order" "aparts" "[I"] ++ wsX80 ++ wsX20 ++ wsX40)
def wsX8_look_r1 : List Cond := [Cond.fieldLink RX8 12 "ScaleGroups" "now" "LScaleGroups$Order;", Cond.fieldLink RX8 75 "ScaleGroups$Order" "points" "LScaleGroups$Points;", Cond.fieldLink RX8 113 "ScaleGroups$Points" "count" "I", Cond.fieldLink RX8 64 "ScaleGroups" "labelSize" "I", Cond.fieldLink RX8 68 "ScaleGroups" "drawState" "I", Cond.methodLink RX8 339 yX6_first, Cond.static yX6_first, Cond.initialized RX6, Cond.code yX6_first cX6_first 1 (some .int), Cond.methodLink RX8 163 yX4_weightOf, Cond.instanceMethod yX4_weightOf, Cond.selects RX4 yX4_weightOf yX4_weightOf, Cond.initialized RX4, Cond.code yX4_weightOf cX4_weightOf 4 (some .int), Cond.fieldLink RX4 9 "ScaleGroups$Points" "count" "I", Cond.fieldLink RX4 22 "ScaleGroups$Points" "ws" "[I", Cond.methodLink RX4 44 yX6_has, Cond.static yX6_has, Cond.code yX6_has cX6_has 2 (some .boolean), Cond.methodLink RX8 327 yX2_sumAparts, Cond.instanceMethod yX2_sumAparts, Cond.selects RX2 yX2_sumAparts yX2_sumAparts, Cond.initialized RX2, Cond.code yX2_sumAparts cX2_sumAparts 3 (some .int)]
def wsX8_look_r2 : List Cond := [Cond.fieldLink RX2 18 "ScaleGroups$Order" "count" "I", Cond.fieldLink RX2 26 "ScaleGroups$Order" "aparts" "[I", Cond.methodLink RX8 342 yX2_sumRoots, Cond.instanceMethod yX2_sumRoots, Cond.selects RX2 yX2_sumRoots yX2_sumRoots, Cond.code yX2_sumRoots cX2_sumRoots 3 (some .int), Cond.fieldLink RX2 30 "ScaleGroups$Order" "roots" "[I", Cond.methodLink RX8 245 yX4_wide, Cond.instanceMethod yX4_wide, Cond.selects RX4 yX4_wide yX4_wide, Cond.code yX4_wide cX4_wide 5 (some .int), Cond.methodLink RX4 50 Lib.Math.max.name, Cond.static Lib.Math.max.name, Cond.initialized "java/lang/Math", Cond.code Lib.Math.max.name Lib.Math.max.code 2 (some .int), Cond.methodLink RX4 37 yX4_apart, Cond.instanceMethod yX4_apart, Cond.selects RX4 yX4_apart yX4_apart, Cond.code yX4_apart cX4_apart 3 (some .int), Cond.fieldLink RX4 15 "ScaleGroups$Points" "xs" "[I", Cond.fieldLink RX4 19 "ScaleGroups$Points" "ys" "[I", Cond.methodLink RX4 33 yX4_squares, Cond.instanceMethod yX4_squares, Cond.selects RX4 yX4_squares yX4_squares]
def wsX8_look_r3 : List Cond := [Cond.code yX4_squares cX4_squares 6 (some .int), Cond.methodLink RX8 345 yX2_mostLinks, Cond.instanceMethod yX2_mostLinks, Cond.selects RX2 yX2_mostLinks yX2_mostLinks, Cond.code yX2_mostLinks cX2_mostLinks 3 (some .int), Cond.fieldLink RX2 12 "ScaleGroups$Order" "points" "LScaleGroups$Points;", Cond.fieldLink RX2 66 "ScaleGroups$Points" "count" "I", Cond.methodLink RX2 101 Lib.Math.max.name, Cond.methodLink RX2 136 yX2_linksOf, Cond.instanceMethod yX2_linksOf, Cond.selects RX2 yX2_linksOf yX2_linksOf, Cond.code yX2_linksOf cX2_linksOf 4 (some .int), Cond.fieldLink RX2 33 "ScaleGroups$Order" "firsts" "[I", Cond.fieldLink RX2 36 "ScaleGroups$Order" "seconds" "[I", Cond.methodLink RX8 348 yX8_groupsOfAllZooms, Cond.instanceMethod yX8_groupsOfAllZooms, Cond.selects RX8 yX8_groupsOfAllZooms yX8_groupsOfAllZooms, Cond.initialized RX8, Cond.code yX8_groupsOfAllZooms cX8_groupsOfAllZooms 3 (some .int), Cond.methodLink RX8 357 yX8_groups, Cond.instanceMethod yX8_groups, Cond.selects RX8 yX8_groups yX8_groups, Cond.code yX8_groups cX8_groups 2 (some .int), Cond.methodLink RX8 203 yX8_isZoom]
def wsX8_look_r4 : List Cond := [Cond.static yX8_isZoom, Cond.code yX8_isZoom cX8_isZoom 1 (some .boolean), Cond.methodLink RX8 200 yX2_joinsWithin, Cond.instanceMethod yX2_joinsWithin, Cond.selects RX2 yX2_joinsWithin yX2_joinsWithin, Cond.code yX2_joinsWithin cX2_joinsWithin 4 (some .int)]
def wsX8_look : List Cond := .code yX8_look cX8_look 3 (some .int) :: ((wsX8_look_r1 ++ (wsX8_look_r2 ++ (wsX8_look_r3 ++ wsX8_look_r4))) ++ wsX80 ++ wsX20 ++ wsX40)
def wsX9_init_r1 : List Cond := [Cond.methodLink RX9 1 objectInit, Cond.instanceMethod objectInit, Cond.code objectInit ⟨#[0xb1]⟩ 1 none, Cond.arrayClass .int, Cond.fieldLink RX9 7 "ScaleGroupsModel" "x" "[I", Cond.fieldLink RX9 13 "ScaleGroupsModel" "y" "[I", Cond.fieldLink RX9 16 "ScaleGroupsModel" "w" "[I", Cond.fieldLink RX9 19 "ScaleGroupsModel" "size" "I", Cond.fieldLink RX9 23 "ScaleGroupsModel" "first" "[I", Cond.fieldLink RX9 26 "ScaleGroupsModel" "second" "[I", Cond.fieldLink RX9 29 "ScaleGroupsModel" "wide" "[I", Cond.fieldLink RX9 32 "ScaleGroupsModel" "madeSet" "[I", Cond.fieldLink RX9 35 "ScaleGroupsModel" "oneSide" "[I", Cond.fieldLink RX9 38 "ScaleGroupsModel" "otherSide" "[I", Cond.fieldLink RX9 41 "ScaleGroupsModel" "aboveJoin" "[I", Cond.fieldLink RX9 44 "ScaleGroupsModel" "abovePoint" "[I", Cond.fieldLink RX9 47 "ScaleGroupsModel" "nodeOf" "[I", Cond.fieldLink RX9 50 "ScaleGroupsModel" "setOf" "[I", Cond.fieldLink RX9 53 "ScaleGroupsModel" "wasPlace" "[I", Cond.fieldLink RX9 56 "ScaleGroupsModel" "wasOne" "[I", Cond.fieldLink RX9 59 "ScaleGroupsModel" "wasOther" "[I", Cond.fieldLink RX9 62 "ScaleGroupsModel" "wasWide" "[I", Cond.fieldLink RX9 65 "ScaleGroupsModel" "way" "[I", Cond.fieldLink RX9 68 "ScaleGroupsModel" "partOf" "[I"]
def wsX9_init_r2 : List Cond := [Cond.fieldLink RX9 71 "ScaleGroupsModel" "corner" "[I", Cond.fieldLink RX9 74 "ScaleGroupsModel" "ahead" "[I", Cond.fieldLink RX9 77 "ScaleGroupsModel" "bestNode" "[I", Cond.fieldLink RX9 80 "ScaleGroupsModel" "ranked" "[I", Cond.fieldLink RX9 83 "ScaleGroupsModel" "shown" "[I", Cond.fieldLink RX9 86 "ScaleGroupsModel" "asideOne" "[I", Cond.fieldLink RX9 89 "ScaleGroupsModel" "asideOther" "[I", Cond.fieldLink RX9 92 "ScaleGroupsModel" "wasPart" "[I"]
def wsX9_init : List Cond := .code yX9_init cX9_init 1 none :: ((wsX9_init_r1 ++ wsX9_init_r2) ++ wsX90)
def wsX9_isIn : List Cond := .code yX9_isIn cX9_isIn 7 (some .boolean) :: ([])
def wsX9_has : List Cond := .code yX9_has cX9_has 3 (some .boolean) :: ([])
def wsX9_isPoint : List Cond := .code yX9_isPoint cX9_isPoint 2 (some .boolean) :: ([.fieldLink RX9 98 "ScaleGroupsModel" "n" "I", .methodLink RX9 101 yX9_isIn, .instanceMethod yX9_isIn, .selects RX9 yX9_isIn yX9_isIn, .initialized RX9, .code yX9_isIn cX9_isIn 7 (some .boolean)] ++ wsX90)
def wsX9_isZoom : List Cond := .code yX9_isZoom cX9_isZoom 2 (some .boolean) :: ([.constantLong RX9 105 (10), .methodLink RX9 101 yX9_isIn, .instanceMethod yX9_isIn, .selects RX9 yX9_isIn yX9_isIn, .initialized RX9, .code yX9_isIn cX9_isIn 7 (some .boolean)])
def wsX9_radius : List Cond := .code yX9_radius cX9_radius 2 (some .int) :: ([])
def wsX9_apart : List Cond := .code yX9_apart cX9_apart 3 (some .int) :: ([.fieldLink RX9 7 "ScaleGroupsModel" "x" "[I", .fieldLink RX9 13 "ScaleGroupsModel" "y" "[I"] ++ wsX90)
def wsX9_root : List Cond := .code yX9_root cX9_root 3 (some .int) :: ([])
def wsX9_joins : List Cond := .code yX9_joins cX9_joins 1 (some .int) :: ([.fieldLink RX9 98 "ScaleGroupsModel" "n" "I"] ++ wsX90)
def wsX9_isSooner : List Cond := .code yX9_isSooner cX9_isSooner 7 (some .boolean) :: ([.methodLink RX9 111 Lib.Math.min.name, .static Lib.Math.min.name, .initialized "java/lang/Math", .code Lib.Math.min.name Lib.Math.min.code 2 (some .int), .methodLink RX9 116 Lib.Math.max.name, .static Lib.Math.max.name, .code Lib.Math.max.name Lib.Math.max.code 2 (some .int), .methodLink RX9 107 yX9_apart, .instanceMethod yX9_apart, .selects RX9 yX9_apart yX9_apart, .initialized RX9, .code yX9_apart cX9_apart 3 (some .int), .fieldLink RX9 7 "ScaleGroupsModel" "x" "[I", .fieldLink RX9 13 "ScaleGroupsModel" "y" "[I"] ++ wsX90)
def wsX9_puts : List Cond := .code yX9_puts cX9_puts 3 none :: ([.fieldLink RX9 44 "ScaleGroupsModel" "abovePoint" "[I", .fieldLink RX9 41 "ScaleGroupsModel" "aboveJoin" "[I"] ++ wsX90)
def wsX9_laysSides : List Cond := .code yX9_laysSides cX9_laysSides 3 none :: ([.fieldLink RX9 98 "ScaleGroupsModel" "n" "I", .fieldLink RX9 47 "ScaleGroupsModel" "nodeOf" "[I", .fieldLink RX9 50 "ScaleGroupsModel" "setOf" "[I", .fieldLink RX9 44 "ScaleGroupsModel" "abovePoint" "[I", .fieldLink RX9 41 "ScaleGroupsModel" "aboveJoin" "[I", .fieldLink RX9 35 "ScaleGroupsModel" "oneSide" "[I", .fieldLink RX9 23 "ScaleGroupsModel" "first" "[I", .fieldLink RX9 38 "ScaleGroupsModel" "otherSide" "[I", .fieldLink RX9 26 "ScaleGroupsModel" "second" "[I", .fieldLink RX9 32 "ScaleGroupsModel" "madeSet" "[I", .methodLink RX9 119 yX9_joins, .instanceMethod yX9_joins, .selects RX9 yX9_joins yX9_joins, .initialized RX9, .code yX9_joins cX9_joins 1 (some .int), .methodLink RX9 134 yX9_puts, .instanceMethod yX9_puts, .selects RX9 yX9_puts yX9_puts, .code yX9_puts cX9_puts 3 none, .methodLink RX9 123 yX9_has, .instanceMethod yX9_has, .selects RX9 yX9_has yX9_has, .code yX9_has cX9_has 3 (some .boolean)] ++ wsX90)
def wsX9_laysTree_r1 : List Cond := [Cond.fieldLink RX9 98 "ScaleGroupsModel" "n" "I", Cond.fieldLink RX9 23 "ScaleGroupsModel" "first" "[I", Cond.fieldLink RX9 26 "ScaleGroupsModel" "second" "[I", Cond.methodLink RX9 111 Lib.Math.min.name, Cond.static Lib.Math.min.name, Cond.initialized "java/lang/Math", Cond.code Lib.Math.min.name Lib.Math.min.code 2 (some .int), Cond.methodLink RX9 116 Lib.Math.max.name, Cond.static Lib.Math.max.name, Cond.code Lib.Math.max.name Lib.Math.max.code 2 (some .int), Cond.fieldLink RX9 29 "ScaleGroupsModel" "wide" "[I", Cond.methodLink RX9 119 yX9_joins, Cond.instanceMethod yX9_joins, Cond.selects RX9 yX9_joins yX9_joins, Cond.initialized RX9, Cond.code yX9_joins cX9_joins 1 (some .int), Cond.methodLink RX9 123 yX9_has, Cond.instanceMethod yX9_has, Cond.selects RX9 yX9_has yX9_has, Cond.code yX9_has cX9_has 3 (some .boolean), Cond.methodLink RX9 127 yX9_isSooner, Cond.instanceMethod yX9_isSooner, Cond.selects RX9 yX9_isSooner yX9_isSooner, Cond.code yX9_isSooner cX9_isSooner 7 (some .boolean)]
def wsX9_laysTree_r2 : List Cond := [Cond.methodLink RX9 107 yX9_apart, Cond.instanceMethod yX9_apart, Cond.selects RX9 yX9_apart yX9_apart, Cond.code yX9_apart cX9_apart 3 (some .int), Cond.fieldLink RX9 7 "ScaleGroupsModel" "x" "[I", Cond.fieldLink RX9 13 "ScaleGroupsModel" "y" "[I", Cond.methodLink RX9 131 yX9_laysSides, Cond.instanceMethod yX9_laysSides, Cond.selects RX9 yX9_laysSides yX9_laysSides, Cond.code yX9_laysSides cX9_laysSides 3 none, Cond.fieldLink RX9 47 "ScaleGroupsModel" "nodeOf" "[I", Cond.fieldLink RX9 50 "ScaleGroupsModel" "setOf" "[I", Cond.fieldLink RX9 44 "ScaleGroupsModel" "abovePoint" "[I", Cond.fieldLink RX9 41 "ScaleGroupsModel" "aboveJoin" "[I", Cond.fieldLink RX9 35 "ScaleGroupsModel" "oneSide" "[I", Cond.fieldLink RX9 38 "ScaleGroupsModel" "otherSide" "[I", Cond.fieldLink RX9 32 "ScaleGroupsModel" "madeSet" "[I", Cond.methodLink RX9 134 yX9_puts, Cond.instanceMethod yX9_puts, Cond.selects RX9 yX9_puts yX9_puts, Cond.code yX9_puts cX9_puts 3 none]
def wsX9_laysTree : List Cond := .code yX9_laysTree cX9_laysTree 7 none :: ((wsX9_laysTree_r1 ++ wsX9_laysTree_r2) ++ wsX90)
def wsX9_weightOf : List Cond := .code yX9_weightOf cX9_weightOf 4 (some .int) :: ([.fieldLink RX9 98 "ScaleGroupsModel" "n" "I", .fieldLink RX9 16 "ScaleGroupsModel" "w" "[I", .methodLink RX9 123 yX9_has, .instanceMethod yX9_has, .selects RX9 yX9_has yX9_has, .initialized RX9, .code yX9_has cX9_has 3 (some .boolean)] ++ wsX90)
def wsX9_bits : List Cond := .code yX9_bits cX9_bits 4 (some .int) :: ([.methodLink RX9 123 yX9_has, .instanceMethod yX9_has, .selects RX9 yX9_has yX9_has, .initialized RX9, .code yX9_has cX9_has 3 (some .boolean)])
def wsX9_least : List Cond := .code yX9_least cX9_least 3 (some .int) :: ([.methodLink RX9 123 yX9_has, .instanceMethod yX9_has, .selects RX9 yX9_has yX9_has, .initialized RX9, .code yX9_has cX9_has 3 (some .boolean)])
def wsX9_placeOf : List Cond := .code yX9_placeOf cX9_placeOf 2 (some .int) :: ([.fieldLink RX9 13 "ScaleGroupsModel" "y" "[I", .fieldLink RX9 7 "ScaleGroupsModel" "x" "[I"] ++ wsX90)
def wsX9_keeps : List Cond := .code yX9_keeps cX9_keeps 2 none :: ([.fieldLink RX9 98 "ScaleGroupsModel" "n" "I", .fieldLink RX9 138 "ScaleGroupsModel" "wasMany" "I", .fieldLink RX9 53 "ScaleGroupsModel" "wasPlace" "[I", .fieldLink RX9 56 "ScaleGroupsModel" "wasOne" "[I", .fieldLink RX9 23 "ScaleGroupsModel" "first" "[I", .fieldLink RX9 59 "ScaleGroupsModel" "wasOther" "[I", .fieldLink RX9 26 "ScaleGroupsModel" "second" "[I", .fieldLink RX9 62 "ScaleGroupsModel" "wasWide" "[I", .fieldLink RX9 29 "ScaleGroupsModel" "wide" "[I", .fieldLink RX9 145 "ScaleGroupsModel" "isRepaired" "Z", .methodLink RX9 141 yX9_placeOf, .instanceMethod yX9_placeOf, .selects RX9 yX9_placeOf yX9_placeOf, .initialized RX9, .code yX9_placeOf cX9_placeOf 2 (some .int), .fieldLink RX9 13 "ScaleGroupsModel" "y" "[I", .fieldLink RX9 7 "ScaleGroupsModel" "x" "[I", .methodLink RX9 119 yX9_joins, .instanceMethod yX9_joins, .selects RX9 yX9_joins yX9_joins, .code yX9_joins cX9_joins 1 (some .int)] ++ wsX90)
def wsX9_wasJoins : List Cond := .code yX9_wasJoins cX9_wasJoins 1 (some .int) :: ([.fieldLink RX9 138 "ScaleGroupsModel" "wasMany" "I"] ++ wsX90)
def wsX9_areSame : List Cond := .code yX9_areSame cX9_areSame 5 (some .boolean) :: ([.fieldLink RX9 23 "ScaleGroupsModel" "first" "[I", .fieldLink RX9 26 "ScaleGroupsModel" "second" "[I", .fieldLink RX9 56 "ScaleGroupsModel" "wasOne" "[I", .fieldLink RX9 59 "ScaleGroupsModel" "wasOther" "[I", .methodLink RX9 141 yX9_placeOf, .instanceMethod yX9_placeOf, .selects RX9 yX9_placeOf yX9_placeOf, .initialized RX9, .code yX9_placeOf cX9_placeOf 2 (some .int), .fieldLink RX9 13 "ScaleGroupsModel" "y" "[I", .fieldLink RX9 7 "ScaleGroupsModel" "x" "[I"] ++ wsX90)
def wsX9_isNew : List Cond := .code yX9_isNew cX9_isNew 3 (some .boolean) :: ([.fieldLink RX9 145 "ScaleGroupsModel" "isRepaired" "Z", .methodLink RX9 149 yX9_wasJoins, .instanceMethod yX9_wasJoins, .selects RX9 yX9_wasJoins yX9_wasJoins, .initialized RX9, .code yX9_wasJoins cX9_wasJoins 1 (some .int), .fieldLink RX9 138 "ScaleGroupsModel" "wasMany" "I", .methodLink RX9 152 yX9_areSame, .instanceMethod yX9_areSame, .selects RX9 yX9_areSame yX9_areSame, .code yX9_areSame cX9_areSame 5 (some .boolean), .fieldLink RX9 23 "ScaleGroupsModel" "first" "[I", .fieldLink RX9 26 "ScaleGroupsModel" "second" "[I", .fieldLink RX9 56 "ScaleGroupsModel" "wasOne" "[I", .fieldLink RX9 59 "ScaleGroupsModel" "wasOther" "[I", .methodLink RX9 141 yX9_placeOf, .instanceMethod yX9_placeOf, .selects RX9 yX9_placeOf yX9_placeOf, .code yX9_placeOf cX9_placeOf 2 (some .int), .fieldLink RX9 13 "ScaleGroupsModel" "y" "[I", .fieldLink RX9 7 "ScaleGroupsModel" "x" "[I"] ++ wsX90)
def wsX9_isGone : List Cond := .code yX9_isGone cX9_isGone 3 (some .boolean) :: ([.methodLink RX9 119 yX9_joins, .instanceMethod yX9_joins, .selects RX9 yX9_joins yX9_joins, .initialized RX9, .code yX9_joins cX9_joins 1 (some .int), .fieldLink RX9 98 "ScaleGroupsModel" "n" "I", .methodLink RX9 152 yX9_areSame, .instanceMethod yX9_areSame, .selects RX9 yX9_areSame yX9_areSame, .code yX9_areSame cX9_areSame 5 (some .boolean), .fieldLink RX9 23 "ScaleGroupsModel" "first" "[I", .fieldLink RX9 26 "ScaleGroupsModel" "second" "[I", .fieldLink RX9 56 "ScaleGroupsModel" "wasOne" "[I", .fieldLink RX9 59 "ScaleGroupsModel" "wasOther" "[I", .methodLink RX9 141 yX9_placeOf, .instanceMethod yX9_placeOf, .selects RX9 yX9_placeOf yX9_placeOf, .code yX9_placeOf cX9_placeOf 2 (some .int), .fieldLink RX9 13 "ScaleGroupsModel" "y" "[I", .fieldLink RX9 7 "ScaleGroupsModel" "x" "[I"] ++ wsX90)
def wsX9_newOnes_r1 : List Cond := [Cond.methodLink RX9 119 yX9_joins, Cond.instanceMethod yX9_joins, Cond.selects RX9 yX9_joins yX9_joins, Cond.initialized RX9, Cond.code yX9_joins cX9_joins 1 (some .int), Cond.fieldLink RX9 98 "ScaleGroupsModel" "n" "I", Cond.methodLink RX9 155 yX9_isNew, Cond.instanceMethod yX9_isNew, Cond.selects RX9 yX9_isNew yX9_isNew, Cond.code yX9_isNew cX9_isNew 3 (some .boolean), Cond.fieldLink RX9 145 "ScaleGroupsModel" "isRepaired" "Z", Cond.methodLink RX9 149 yX9_wasJoins, Cond.instanceMethod yX9_wasJoins, Cond.selects RX9 yX9_wasJoins yX9_wasJoins, Cond.code yX9_wasJoins cX9_wasJoins 1 (some .int), Cond.fieldLink RX9 138 "ScaleGroupsModel" "wasMany" "I", Cond.methodLink RX9 152 yX9_areSame, Cond.instanceMethod yX9_areSame, Cond.selects RX9 yX9_areSame yX9_areSame, Cond.code yX9_areSame cX9_areSame 5 (some .boolean), Cond.fieldLink RX9 23 "ScaleGroupsModel" "first" "[I", Cond.fieldLink RX9 26 "ScaleGroupsModel" "second" "[I", Cond.fieldLink RX9 56 "ScaleGroupsModel" "wasOne" "[I", Cond.fieldLink RX9 59 "ScaleGroupsModel" "wasOther" "[I"]
def wsX9_newOnes_r2 : List Cond := [Cond.methodLink RX9 141 yX9_placeOf, Cond.instanceMethod yX9_placeOf, Cond.selects RX9 yX9_placeOf yX9_placeOf, Cond.code yX9_placeOf cX9_placeOf 2 (some .int), Cond.fieldLink RX9 13 "ScaleGroupsModel" "y" "[I", Cond.fieldLink RX9 7 "ScaleGroupsModel" "x" "[I"]
def wsX9_newOnes : List Cond := .code yX9_newOnes cX9_newOnes 3 (some .int) :: ((wsX9_newOnes_r1 ++ wsX9_newOnes_r2) ++ wsX90)
def wsX9_pointAt : List Cond := .code yX9_pointAt cX9_pointAt 4 (some .int) :: ([.fieldLink RX9 98 "ScaleGroupsModel" "n" "I", .fieldLink RX9 7 "ScaleGroupsModel" "x" "[I", .fieldLink RX9 13 "ScaleGroupsModel" "y" "[I"] ++ wsX90)
def wsX9_canCome : List Cond := .code yX9_canCome cX9_canCome 3 (some .boolean) :: ([.fieldLink RX9 98 "ScaleGroupsModel" "n" "I", .constantLong RX9 159 (1023), .methodLink RX9 101 yX9_isIn, .instanceMethod yX9_isIn, .selects RX9 yX9_isIn yX9_isIn, .initialized RX9, .code yX9_isIn cX9_isIn 7 (some .boolean), .methodLink RX9 161 yX9_pointAt, .instanceMethod yX9_pointAt, .selects RX9 yX9_pointAt yX9_pointAt, .code yX9_pointAt cX9_pointAt 4 (some .int), .fieldLink RX9 7 "ScaleGroupsModel" "x" "[I", .fieldLink RX9 13 "ScaleGroupsModel" "y" "[I"] ++ wsX90)
def wsX9_comes : List Cond := .code yX9_comes cX9_comes 5 none :: ([.fieldLink RX9 98 "ScaleGroupsModel" "n" "I", .fieldLink RX9 7 "ScaleGroupsModel" "x" "[I", .fieldLink RX9 13 "ScaleGroupsModel" "y" "[I", .fieldLink RX9 16 "ScaleGroupsModel" "w" "[I"] ++ wsX90)
def wsX9_goes : List Cond := .code yX9_goes cX9_goes 3 none :: ([.fieldLink RX9 98 "ScaleGroupsModel" "n" "I", .fieldLink RX9 7 "ScaleGroupsModel" "x" "[I", .fieldLink RX9 13 "ScaleGroupsModel" "y" "[I", .fieldLink RX9 16 "ScaleGroupsModel" "w" "[I"] ++ wsX90)
def wsX9_add_r1 : List Cond := [Cond.fieldLink RX9 95 "ScaleGroupsModel" "told" "I", Cond.constantLong RX9 167 (99), Cond.methodLink RX9 164 yX9_canCome, Cond.instanceMethod yX9_canCome, Cond.selects RX9 yX9_canCome yX9_canCome, Cond.initialized RX9, Cond.code yX9_canCome cX9_canCome 3 (some .boolean), Cond.fieldLink RX9 98 "ScaleGroupsModel" "n" "I", Cond.constantLong RX9 159 (1023), Cond.methodLink RX9 101 yX9_isIn, Cond.instanceMethod yX9_isIn, Cond.selects RX9 yX9_isIn yX9_isIn, Cond.code yX9_isIn cX9_isIn 7 (some .boolean), Cond.methodLink RX9 161 yX9_pointAt, Cond.instanceMethod yX9_pointAt, Cond.selects RX9 yX9_pointAt yX9_pointAt, Cond.code yX9_pointAt cX9_pointAt 4 (some .int), Cond.fieldLink RX9 7 "ScaleGroupsModel" "x" "[I", Cond.fieldLink RX9 13 "ScaleGroupsModel" "y" "[I", Cond.methodLink RX9 169 yX9_keeps, Cond.instanceMethod yX9_keeps, Cond.selects RX9 yX9_keeps yX9_keeps, Cond.code yX9_keeps cX9_keeps 2 none, Cond.fieldLink RX9 138 "ScaleGroupsModel" "wasMany" "I"]
def wsX9_add_r2 : List Cond := [Cond.fieldLink RX9 53 "ScaleGroupsModel" "wasPlace" "[I", Cond.fieldLink RX9 56 "ScaleGroupsModel" "wasOne" "[I", Cond.fieldLink RX9 23 "ScaleGroupsModel" "first" "[I", Cond.fieldLink RX9 59 "ScaleGroupsModel" "wasOther" "[I", Cond.fieldLink RX9 26 "ScaleGroupsModel" "second" "[I", Cond.fieldLink RX9 62 "ScaleGroupsModel" "wasWide" "[I", Cond.fieldLink RX9 29 "ScaleGroupsModel" "wide" "[I", Cond.fieldLink RX9 145 "ScaleGroupsModel" "isRepaired" "Z", Cond.methodLink RX9 141 yX9_placeOf, Cond.instanceMethod yX9_placeOf, Cond.selects RX9 yX9_placeOf yX9_placeOf, Cond.code yX9_placeOf cX9_placeOf 2 (some .int), Cond.methodLink RX9 119 yX9_joins, Cond.instanceMethod yX9_joins, Cond.selects RX9 yX9_joins yX9_joins, Cond.code yX9_joins cX9_joins 1 (some .int), Cond.methodLink RX9 172 yX9_comes, Cond.instanceMethod yX9_comes, Cond.selects RX9 yX9_comes yX9_comes, Cond.code yX9_comes cX9_comes 5 none, Cond.fieldLink RX9 16 "ScaleGroupsModel" "w" "[I", Cond.methodLink RX9 176 yX9_laysTree, Cond.instanceMethod yX9_laysTree, Cond.selects RX9 yX9_laysTree yX9_laysTree]
def wsX9_add_r3 : List Cond := [Cond.code yX9_laysTree cX9_laysTree 7 none, Cond.methodLink RX9 111 Lib.Math.min.name, Cond.static Lib.Math.min.name, Cond.initialized "java/lang/Math", Cond.code Lib.Math.min.name Lib.Math.min.code 2 (some .int), Cond.methodLink RX9 116 Lib.Math.max.name, Cond.static Lib.Math.max.name, Cond.code Lib.Math.max.name Lib.Math.max.code 2 (some .int), Cond.methodLink RX9 123 yX9_has, Cond.instanceMethod yX9_has, Cond.selects RX9 yX9_has yX9_has, Cond.code yX9_has cX9_has 3 (some .boolean), Cond.methodLink RX9 127 yX9_isSooner, Cond.instanceMethod yX9_isSooner, Cond.selects RX9 yX9_isSooner yX9_isSooner, Cond.code yX9_isSooner cX9_isSooner 7 (some .boolean), Cond.methodLink RX9 107 yX9_apart, Cond.instanceMethod yX9_apart, Cond.selects RX9 yX9_apart yX9_apart, Cond.code yX9_apart cX9_apart 3 (some .int), Cond.methodLink RX9 131 yX9_laysSides, Cond.instanceMethod yX9_laysSides, Cond.selects RX9 yX9_laysSides yX9_laysSides, Cond.code yX9_laysSides cX9_laysSides 3 none]
def wsX9_add_r4 : List Cond := [Cond.fieldLink RX9 47 "ScaleGroupsModel" "nodeOf" "[I", Cond.fieldLink RX9 50 "ScaleGroupsModel" "setOf" "[I", Cond.fieldLink RX9 44 "ScaleGroupsModel" "abovePoint" "[I", Cond.fieldLink RX9 41 "ScaleGroupsModel" "aboveJoin" "[I", Cond.fieldLink RX9 35 "ScaleGroupsModel" "oneSide" "[I", Cond.fieldLink RX9 38 "ScaleGroupsModel" "otherSide" "[I", Cond.fieldLink RX9 32 "ScaleGroupsModel" "madeSet" "[I", Cond.methodLink RX9 134 yX9_puts, Cond.instanceMethod yX9_puts, Cond.selects RX9 yX9_puts yX9_puts, Cond.code yX9_puts cX9_puts 3 none, Cond.methodLink RX9 179 yX9_newOnes, Cond.instanceMethod yX9_newOnes, Cond.selects RX9 yX9_newOnes yX9_newOnes, Cond.code yX9_newOnes cX9_newOnes 3 (some .int), Cond.methodLink RX9 155 yX9_isNew, Cond.instanceMethod yX9_isNew, Cond.selects RX9 yX9_isNew yX9_isNew, Cond.code yX9_isNew cX9_isNew 3 (some .boolean), Cond.methodLink RX9 149 yX9_wasJoins, Cond.instanceMethod yX9_wasJoins, Cond.selects RX9 yX9_wasJoins yX9_wasJoins, Cond.code yX9_wasJoins cX9_wasJoins 1 (some .int), Cond.methodLink RX9 152 yX9_areSame]
def wsX9_add_r5 : List Cond := [Cond.instanceMethod yX9_areSame, Cond.selects RX9 yX9_areSame yX9_areSame, Cond.code yX9_areSame cX9_areSame 5 (some .boolean)]
def wsX9_add : List Cond := .code yX9_add cX9_add 4 (some .int) :: ((wsX9_add_r1 ++ (wsX9_add_r2 ++ (wsX9_add_r3 ++ (wsX9_add_r4 ++ wsX9_add_r5)))) ++ wsX90)
def wsX9_take_r1 : List Cond := [Cond.fieldLink RX9 95 "ScaleGroupsModel" "told" "I", Cond.methodLink RX9 182 yX9_isPoint, Cond.instanceMethod yX9_isPoint, Cond.selects RX9 yX9_isPoint yX9_isPoint, Cond.initialized RX9, Cond.code yX9_isPoint cX9_isPoint 2 (some .boolean), Cond.fieldLink RX9 98 "ScaleGroupsModel" "n" "I", Cond.methodLink RX9 101 yX9_isIn, Cond.instanceMethod yX9_isIn, Cond.selects RX9 yX9_isIn yX9_isIn, Cond.code yX9_isIn cX9_isIn 7 (some .boolean), Cond.methodLink RX9 169 yX9_keeps, Cond.instanceMethod yX9_keeps, Cond.selects RX9 yX9_keeps yX9_keeps, Cond.code yX9_keeps cX9_keeps 2 none, Cond.fieldLink RX9 138 "ScaleGroupsModel" "wasMany" "I", Cond.fieldLink RX9 53 "ScaleGroupsModel" "wasPlace" "[I", Cond.fieldLink RX9 56 "ScaleGroupsModel" "wasOne" "[I", Cond.fieldLink RX9 23 "ScaleGroupsModel" "first" "[I", Cond.fieldLink RX9 59 "ScaleGroupsModel" "wasOther" "[I", Cond.fieldLink RX9 26 "ScaleGroupsModel" "second" "[I", Cond.fieldLink RX9 62 "ScaleGroupsModel" "wasWide" "[I", Cond.fieldLink RX9 29 "ScaleGroupsModel" "wide" "[I", Cond.fieldLink RX9 145 "ScaleGroupsModel" "isRepaired" "Z"]
def wsX9_take_r2 : List Cond := [Cond.methodLink RX9 141 yX9_placeOf, Cond.instanceMethod yX9_placeOf, Cond.selects RX9 yX9_placeOf yX9_placeOf, Cond.code yX9_placeOf cX9_placeOf 2 (some .int), Cond.fieldLink RX9 13 "ScaleGroupsModel" "y" "[I", Cond.fieldLink RX9 7 "ScaleGroupsModel" "x" "[I", Cond.methodLink RX9 119 yX9_joins, Cond.instanceMethod yX9_joins, Cond.selects RX9 yX9_joins yX9_joins, Cond.code yX9_joins cX9_joins 1 (some .int), Cond.methodLink RX9 185 yX9_goes, Cond.instanceMethod yX9_goes, Cond.selects RX9 yX9_goes yX9_goes, Cond.code yX9_goes cX9_goes 3 none, Cond.fieldLink RX9 16 "ScaleGroupsModel" "w" "[I", Cond.methodLink RX9 176 yX9_laysTree, Cond.instanceMethod yX9_laysTree, Cond.selects RX9 yX9_laysTree yX9_laysTree, Cond.code yX9_laysTree cX9_laysTree 7 none, Cond.methodLink RX9 111 Lib.Math.min.name, Cond.static Lib.Math.min.name, Cond.initialized "java/lang/Math", Cond.code Lib.Math.min.name Lib.Math.min.code 2 (some .int), Cond.methodLink RX9 116 Lib.Math.max.name]
def wsX9_take_r3 : List Cond := [Cond.static Lib.Math.max.name, Cond.code Lib.Math.max.name Lib.Math.max.code 2 (some .int), Cond.methodLink RX9 123 yX9_has, Cond.instanceMethod yX9_has, Cond.selects RX9 yX9_has yX9_has, Cond.code yX9_has cX9_has 3 (some .boolean), Cond.methodLink RX9 127 yX9_isSooner, Cond.instanceMethod yX9_isSooner, Cond.selects RX9 yX9_isSooner yX9_isSooner, Cond.code yX9_isSooner cX9_isSooner 7 (some .boolean), Cond.methodLink RX9 107 yX9_apart, Cond.instanceMethod yX9_apart, Cond.selects RX9 yX9_apart yX9_apart, Cond.code yX9_apart cX9_apart 3 (some .int), Cond.methodLink RX9 131 yX9_laysSides, Cond.instanceMethod yX9_laysSides, Cond.selects RX9 yX9_laysSides yX9_laysSides, Cond.code yX9_laysSides cX9_laysSides 3 none, Cond.fieldLink RX9 47 "ScaleGroupsModel" "nodeOf" "[I", Cond.fieldLink RX9 50 "ScaleGroupsModel" "setOf" "[I", Cond.fieldLink RX9 44 "ScaleGroupsModel" "abovePoint" "[I", Cond.fieldLink RX9 41 "ScaleGroupsModel" "aboveJoin" "[I", Cond.fieldLink RX9 35 "ScaleGroupsModel" "oneSide" "[I", Cond.fieldLink RX9 38 "ScaleGroupsModel" "otherSide" "[I"]
def wsX9_take_r4 : List Cond := [Cond.fieldLink RX9 32 "ScaleGroupsModel" "madeSet" "[I", Cond.methodLink RX9 134 yX9_puts, Cond.instanceMethod yX9_puts, Cond.selects RX9 yX9_puts yX9_puts, Cond.code yX9_puts cX9_puts 3 none, Cond.methodLink RX9 179 yX9_newOnes, Cond.instanceMethod yX9_newOnes, Cond.selects RX9 yX9_newOnes yX9_newOnes, Cond.code yX9_newOnes cX9_newOnes 3 (some .int), Cond.methodLink RX9 155 yX9_isNew, Cond.instanceMethod yX9_isNew, Cond.selects RX9 yX9_isNew yX9_isNew, Cond.code yX9_isNew cX9_isNew 3 (some .boolean), Cond.methodLink RX9 149 yX9_wasJoins, Cond.instanceMethod yX9_wasJoins, Cond.selects RX9 yX9_wasJoins yX9_wasJoins, Cond.code yX9_wasJoins cX9_wasJoins 1 (some .int), Cond.methodLink RX9 152 yX9_areSame, Cond.instanceMethod yX9_areSame, Cond.selects RX9 yX9_areSame yX9_areSame, Cond.code yX9_areSame cX9_areSame 5 (some .boolean)]
def wsX9_take : List Cond := .code yX9_take cX9_take 2 (some .int) :: ((wsX9_take_r1 ++ (wsX9_take_r2 ++ (wsX9_take_r3 ++ wsX9_take_r4))) ++ wsX90)
def wsX9_weigh : List Cond := .code yX9_weigh cX9_weigh 4 (some .int) :: ([.fieldLink RX9 95 "ScaleGroupsModel" "told" "I", .constantLong RX9 167 (99), .fieldLink RX9 16 "ScaleGroupsModel" "w" "[I", .methodLink RX9 182 yX9_isPoint, .instanceMethod yX9_isPoint, .selects RX9 yX9_isPoint yX9_isPoint, .initialized RX9, .code yX9_isPoint cX9_isPoint 2 (some .boolean), .fieldLink RX9 98 "ScaleGroupsModel" "n" "I", .methodLink RX9 101 yX9_isIn, .instanceMethod yX9_isIn, .selects RX9 yX9_isIn yX9_isIn, .code yX9_isIn cX9_isIn 7 (some .boolean)] ++ wsX90)
def wsX9_draw : List Cond := .code yX9_draw cX9_draw 2 (some .int) :: ([.constant RX9 189 (1664525), .fieldLink RX9 190 "ScaleGroupsModel" "state" "I", .constant RX9 193 (1013904223)] ++ wsX90)
def wsX9_scatter_r1 : List Cond := [Cond.fieldLink RX9 95 "ScaleGroupsModel" "told" "I", Cond.constantLong RX9 194 (24), Cond.methodLink RX9 101 yX9_isIn, Cond.instanceMethod yX9_isIn, Cond.selects RX9 yX9_isIn yX9_isIn, Cond.initialized RX9, Cond.code yX9_isIn cX9_isIn 7 (some .boolean), Cond.methodLink RX9 169 yX9_keeps, Cond.instanceMethod yX9_keeps, Cond.selects RX9 yX9_keeps yX9_keeps, Cond.code yX9_keeps cX9_keeps 2 none, Cond.fieldLink RX9 98 "ScaleGroupsModel" "n" "I", Cond.fieldLink RX9 138 "ScaleGroupsModel" "wasMany" "I", Cond.fieldLink RX9 53 "ScaleGroupsModel" "wasPlace" "[I", Cond.fieldLink RX9 56 "ScaleGroupsModel" "wasOne" "[I", Cond.fieldLink RX9 23 "ScaleGroupsModel" "first" "[I", Cond.fieldLink RX9 59 "ScaleGroupsModel" "wasOther" "[I", Cond.fieldLink RX9 26 "ScaleGroupsModel" "second" "[I", Cond.fieldLink RX9 62 "ScaleGroupsModel" "wasWide" "[I", Cond.fieldLink RX9 29 "ScaleGroupsModel" "wide" "[I", Cond.fieldLink RX9 145 "ScaleGroupsModel" "isRepaired" "Z", Cond.methodLink RX9 141 yX9_placeOf, Cond.instanceMethod yX9_placeOf, Cond.selects RX9 yX9_placeOf yX9_placeOf]
def wsX9_scatter_r2 : List Cond := [Cond.code yX9_placeOf cX9_placeOf 2 (some .int), Cond.fieldLink RX9 13 "ScaleGroupsModel" "y" "[I", Cond.fieldLink RX9 7 "ScaleGroupsModel" "x" "[I", Cond.methodLink RX9 119 yX9_joins, Cond.instanceMethod yX9_joins, Cond.selects RX9 yX9_joins yX9_joins, Cond.code yX9_joins cX9_joins 1 (some .int), Cond.methodLink RX9 196 yX9_draw, Cond.instanceMethod yX9_draw, Cond.selects RX9 yX9_draw yX9_draw, Cond.code yX9_draw cX9_draw 2 (some .int), Cond.constant RX9 189 (1664525), Cond.fieldLink RX9 190 "ScaleGroupsModel" "state" "I", Cond.constant RX9 193 (1013904223), Cond.methodLink RX9 164 yX9_canCome, Cond.instanceMethod yX9_canCome, Cond.selects RX9 yX9_canCome yX9_canCome, Cond.code yX9_canCome cX9_canCome 3 (some .boolean), Cond.constantLong RX9 159 (1023), Cond.methodLink RX9 161 yX9_pointAt, Cond.instanceMethod yX9_pointAt, Cond.selects RX9 yX9_pointAt yX9_pointAt, Cond.code yX9_pointAt cX9_pointAt 4 (some .int), Cond.methodLink RX9 172 yX9_comes]
def wsX9_scatter_r3 : List Cond := [Cond.instanceMethod yX9_comes, Cond.selects RX9 yX9_comes yX9_comes, Cond.code yX9_comes cX9_comes 5 none, Cond.fieldLink RX9 16 "ScaleGroupsModel" "w" "[I", Cond.methodLink RX9 176 yX9_laysTree, Cond.instanceMethod yX9_laysTree, Cond.selects RX9 yX9_laysTree yX9_laysTree, Cond.code yX9_laysTree cX9_laysTree 7 none, Cond.methodLink RX9 111 Lib.Math.min.name, Cond.static Lib.Math.min.name, Cond.initialized "java/lang/Math", Cond.code Lib.Math.min.name Lib.Math.min.code 2 (some .int), Cond.methodLink RX9 116 Lib.Math.max.name, Cond.static Lib.Math.max.name, Cond.code Lib.Math.max.name Lib.Math.max.code 2 (some .int), Cond.methodLink RX9 123 yX9_has, Cond.instanceMethod yX9_has, Cond.selects RX9 yX9_has yX9_has, Cond.code yX9_has cX9_has 3 (some .boolean), Cond.methodLink RX9 127 yX9_isSooner, Cond.instanceMethod yX9_isSooner, Cond.selects RX9 yX9_isSooner yX9_isSooner, Cond.code yX9_isSooner cX9_isSooner 7 (some .boolean), Cond.methodLink RX9 107 yX9_apart]
def wsX9_scatter_r4 : List Cond := [Cond.instanceMethod yX9_apart, Cond.selects RX9 yX9_apart yX9_apart, Cond.code yX9_apart cX9_apart 3 (some .int), Cond.methodLink RX9 131 yX9_laysSides, Cond.instanceMethod yX9_laysSides, Cond.selects RX9 yX9_laysSides yX9_laysSides, Cond.code yX9_laysSides cX9_laysSides 3 none, Cond.fieldLink RX9 47 "ScaleGroupsModel" "nodeOf" "[I", Cond.fieldLink RX9 50 "ScaleGroupsModel" "setOf" "[I", Cond.fieldLink RX9 44 "ScaleGroupsModel" "abovePoint" "[I", Cond.fieldLink RX9 41 "ScaleGroupsModel" "aboveJoin" "[I", Cond.fieldLink RX9 35 "ScaleGroupsModel" "oneSide" "[I", Cond.fieldLink RX9 38 "ScaleGroupsModel" "otherSide" "[I", Cond.fieldLink RX9 32 "ScaleGroupsModel" "madeSet" "[I", Cond.methodLink RX9 134 yX9_puts, Cond.instanceMethod yX9_puts, Cond.selects RX9 yX9_puts yX9_puts, Cond.code yX9_puts cX9_puts 3 none]
def wsX9_scatter : List Cond := .code yX9_scatter cX9_scatter 7 (some .int) :: ((wsX9_scatter_r1 ++ (wsX9_scatter_r2 ++ (wsX9_scatter_r3 ++ wsX9_scatter_r4))) ++ wsX90)
def wsX9_state : List Cond := .code yX9_state cX9_state 3 (some .int) :: ([.fieldLink RX9 95 "ScaleGroupsModel" "told" "I", .fieldLink RX9 190 "ScaleGroupsModel" "state" "I"] ++ wsX90)
def wsX9_clear_r1 : List Cond := [Cond.fieldLink RX9 95 "ScaleGroupsModel" "told" "I", Cond.fieldLink RX9 98 "ScaleGroupsModel" "n" "I", Cond.methodLink RX9 169 yX9_keeps, Cond.instanceMethod yX9_keeps, Cond.selects RX9 yX9_keeps yX9_keeps, Cond.initialized RX9, Cond.code yX9_keeps cX9_keeps 2 none, Cond.fieldLink RX9 138 "ScaleGroupsModel" "wasMany" "I", Cond.fieldLink RX9 53 "ScaleGroupsModel" "wasPlace" "[I", Cond.fieldLink RX9 56 "ScaleGroupsModel" "wasOne" "[I", Cond.fieldLink RX9 23 "ScaleGroupsModel" "first" "[I", Cond.fieldLink RX9 59 "ScaleGroupsModel" "wasOther" "[I", Cond.fieldLink RX9 26 "ScaleGroupsModel" "second" "[I", Cond.fieldLink RX9 62 "ScaleGroupsModel" "wasWide" "[I", Cond.fieldLink RX9 29 "ScaleGroupsModel" "wide" "[I", Cond.fieldLink RX9 145 "ScaleGroupsModel" "isRepaired" "Z", Cond.methodLink RX9 141 yX9_placeOf, Cond.instanceMethod yX9_placeOf, Cond.selects RX9 yX9_placeOf yX9_placeOf, Cond.code yX9_placeOf cX9_placeOf 2 (some .int), Cond.fieldLink RX9 13 "ScaleGroupsModel" "y" "[I", Cond.fieldLink RX9 7 "ScaleGroupsModel" "x" "[I", Cond.methodLink RX9 119 yX9_joins, Cond.instanceMethod yX9_joins]
def wsX9_clear_r2 : List Cond := [Cond.selects RX9 yX9_joins yX9_joins, Cond.code yX9_joins cX9_joins 1 (some .int)]
def wsX9_clear : List Cond := .code yX9_clear cX9_clear 2 (some .int) :: ((wsX9_clear_r1 ++ wsX9_clear_r2) ++ wsX90)
def wsX9_size : List Cond := .code yX9_size cX9_size 3 (some .int) :: ([.fieldLink RX9 95 "ScaleGroupsModel" "told" "I", .constantLong RX9 199 (999), .fieldLink RX9 19 "ScaleGroupsModel" "size" "I", .methodLink RX9 101 yX9_isIn, .instanceMethod yX9_isIn, .selects RX9 yX9_isIn yX9_isIn, .initialized RX9, .code yX9_isIn cX9_isIn 7 (some .boolean)] ++ wsX90)
def wsX9_nearestOf : List Cond := .code yX9_nearestOf cX9_nearestOf 4 (some .int) :: ([.fieldLink RX9 98 "ScaleGroupsModel" "n" "I", .methodLink RX9 127 yX9_isSooner, .instanceMethod yX9_isSooner, .selects RX9 yX9_isSooner yX9_isSooner, .initialized RX9, .code yX9_isSooner cX9_isSooner 7 (some .boolean), .methodLink RX9 111 Lib.Math.min.name, .static Lib.Math.min.name, .initialized "java/lang/Math", .code Lib.Math.min.name Lib.Math.min.code 2 (some .int), .methodLink RX9 116 Lib.Math.max.name, .static Lib.Math.max.name, .code Lib.Math.max.name Lib.Math.max.code 2 (some .int), .methodLink RX9 107 yX9_apart, .instanceMethod yX9_apart, .selects RX9 yX9_apart yX9_apart, .code yX9_apart cX9_apart 3 (some .int), .fieldLink RX9 7 "ScaleGroupsModel" "x" "[I", .fieldLink RX9 13 "ScaleGroupsModel" "y" "[I"] ++ wsX90)
def wsX9_linksOf : List Cond := .code yX9_linksOf cX9_linksOf 4 (some .int) :: ([.fieldLink RX9 23 "ScaleGroupsModel" "first" "[I", .fieldLink RX9 26 "ScaleGroupsModel" "second" "[I", .methodLink RX9 119 yX9_joins, .instanceMethod yX9_joins, .selects RX9 yX9_joins yX9_joins, .initialized RX9, .code yX9_joins cX9_joins 1 (some .int), .fieldLink RX9 98 "ScaleGroupsModel" "n" "I"] ++ wsX90)
def wsX9_point_r1 : List Cond := [Cond.fieldLink RX9 95 "ScaleGroupsModel" "told" "I", Cond.fieldLink RX9 7 "ScaleGroupsModel" "x" "[I", Cond.fieldLink RX9 13 "ScaleGroupsModel" "y" "[I", Cond.fieldLink RX9 16 "ScaleGroupsModel" "w" "[I", Cond.methodLink RX9 182 yX9_isPoint, Cond.instanceMethod yX9_isPoint, Cond.selects RX9 yX9_isPoint yX9_isPoint, Cond.initialized RX9, Cond.code yX9_isPoint cX9_isPoint 2 (some .boolean), Cond.fieldLink RX9 98 "ScaleGroupsModel" "n" "I", Cond.methodLink RX9 101 yX9_isIn, Cond.instanceMethod yX9_isIn, Cond.selects RX9 yX9_isIn yX9_isIn, Cond.code yX9_isIn cX9_isIn 7 (some .boolean), Cond.methodLink RX9 201 yX9_linksOf, Cond.instanceMethod yX9_linksOf, Cond.selects RX9 yX9_linksOf yX9_linksOf, Cond.code yX9_linksOf cX9_linksOf 4 (some .int), Cond.fieldLink RX9 23 "ScaleGroupsModel" "first" "[I", Cond.fieldLink RX9 26 "ScaleGroupsModel" "second" "[I", Cond.methodLink RX9 119 yX9_joins, Cond.instanceMethod yX9_joins, Cond.selects RX9 yX9_joins yX9_joins, Cond.code yX9_joins cX9_joins 1 (some .int)]
def wsX9_point_r2 : List Cond := [Cond.methodLink RX9 204 yX9_nearestOf, Cond.instanceMethod yX9_nearestOf, Cond.selects RX9 yX9_nearestOf yX9_nearestOf, Cond.code yX9_nearestOf cX9_nearestOf 4 (some .int), Cond.methodLink RX9 127 yX9_isSooner, Cond.instanceMethod yX9_isSooner, Cond.selects RX9 yX9_isSooner yX9_isSooner, Cond.code yX9_isSooner cX9_isSooner 7 (some .boolean), Cond.methodLink RX9 111 Lib.Math.min.name, Cond.static Lib.Math.min.name, Cond.initialized "java/lang/Math", Cond.code Lib.Math.min.name Lib.Math.min.code 2 (some .int), Cond.methodLink RX9 116 Lib.Math.max.name, Cond.static Lib.Math.max.name, Cond.code Lib.Math.max.name Lib.Math.max.code 2 (some .int), Cond.methodLink RX9 107 yX9_apart, Cond.instanceMethod yX9_apart, Cond.selects RX9 yX9_apart yX9_apart, Cond.code yX9_apart cX9_apart 3 (some .int)]
def wsX9_point : List Cond := .code yX9_point cX9_point 4 (some .int) :: ((wsX9_point_r1 ++ wsX9_point_r2) ++ wsX90)
def wsX9_at : List Cond := .code yX9_at cX9_at 3 (some .int) :: ([.fieldLink RX9 95 "ScaleGroupsModel" "told" "I", .methodLink RX9 161 yX9_pointAt, .instanceMethod yX9_pointAt, .selects RX9 yX9_pointAt yX9_pointAt, .initialized RX9, .code yX9_pointAt cX9_pointAt 4 (some .int), .fieldLink RX9 98 "ScaleGroupsModel" "n" "I", .fieldLink RX9 7 "ScaleGroupsModel" "x" "[I", .fieldLink RX9 13 "ScaleGroupsModel" "y" "[I"] ++ wsX90)
def wsX9_farFrom : List Cond := .code yX9_farFrom cX9_farFrom 4 (some .int) :: ([.fieldLink RX9 7 "ScaleGroupsModel" "x" "[I", .fieldLink RX9 13 "ScaleGroupsModel" "y" "[I"] ++ wsX90)
def wsX9_near : List Cond := .code yX9_near cX9_near 9 (some .int) :: ([.fieldLink RX9 95 "ScaleGroupsModel" "told" "I", .constantLong RX9 207 (-9999), .constantLong RX9 209 (9999), .fieldLink RX9 98 "ScaleGroupsModel" "n" "I", .methodLink RX9 101 yX9_isIn, .instanceMethod yX9_isIn, .selects RX9 yX9_isIn yX9_isIn, .initialized RX9, .code yX9_isIn cX9_isIn 7 (some .boolean), .methodLink RX9 211 yX9_farFrom, .instanceMethod yX9_farFrom, .selects RX9 yX9_farFrom yX9_farFrom, .code yX9_farFrom cX9_farFrom 4 (some .int), .fieldLink RX9 7 "ScaleGroupsModel" "x" "[I", .fieldLink RX9 13 "ScaleGroupsModel" "y" "[I"] ++ wsX90)
def wsX9_isJoin : List Cond := .code yX9_isJoin cX9_isJoin 2 (some .boolean) :: ([.methodLink RX9 119 yX9_joins, .instanceMethod yX9_joins, .selects RX9 yX9_joins yX9_joins, .initialized RX9, .code yX9_joins cX9_joins 1 (some .int), .fieldLink RX9 98 "ScaleGroupsModel" "n" "I", .methodLink RX9 101 yX9_isIn, .instanceMethod yX9_isIn, .selects RX9 yX9_isIn yX9_isIn, .code yX9_isIn cX9_isIn 7 (some .boolean)] ++ wsX90)
def wsX9_lasts : List Cond := .code yX9_lasts cX9_lasts 4 (some .int) :: ([.fieldLink RX9 32 "ScaleGroupsModel" "madeSet" "[I", .fieldLink RX9 44 "ScaleGroupsModel" "abovePoint" "[I", .fieldLink RX9 41 "ScaleGroupsModel" "aboveJoin" "[I", .fieldLink RX9 29 "ScaleGroupsModel" "wide" "[I", .methodLink RX9 215 yX9_weightOf, .instanceMethod yX9_weightOf, .selects RX9 yX9_weightOf yX9_weightOf, .initialized RX9, .code yX9_weightOf cX9_weightOf 4 (some .int), .fieldLink RX9 98 "ScaleGroupsModel" "n" "I", .fieldLink RX9 16 "ScaleGroupsModel" "w" "[I", .methodLink RX9 123 yX9_has, .instanceMethod yX9_has, .selects RX9 yX9_has yX9_has, .code yX9_has cX9_has 3 (some .boolean), .methodLink RX9 218 yX9_root, .instanceMethod yX9_root, .selects RX9 yX9_root yX9_root, .code yX9_root cX9_root 3 (some .int)] ++ wsX90)
def wsX9_join_r1 : List Cond := [Cond.fieldLink RX9 95 "ScaleGroupsModel" "told" "I", Cond.fieldLink RX9 29 "ScaleGroupsModel" "wide" "[I", Cond.fieldLink RX9 23 "ScaleGroupsModel" "first" "[I", Cond.fieldLink RX9 26 "ScaleGroupsModel" "second" "[I", Cond.fieldLink RX9 32 "ScaleGroupsModel" "madeSet" "[I", Cond.fieldLink RX9 35 "ScaleGroupsModel" "oneSide" "[I", Cond.fieldLink RX9 38 "ScaleGroupsModel" "otherSide" "[I", Cond.fieldLink RX9 41 "ScaleGroupsModel" "aboveJoin" "[I", Cond.methodLink RX9 221 yX9_isJoin, Cond.instanceMethod yX9_isJoin, Cond.selects RX9 yX9_isJoin yX9_isJoin, Cond.initialized RX9, Cond.code yX9_isJoin cX9_isJoin 2 (some .boolean), Cond.methodLink RX9 119 yX9_joins, Cond.instanceMethod yX9_joins, Cond.selects RX9 yX9_joins yX9_joins, Cond.code yX9_joins cX9_joins 1 (some .int), Cond.fieldLink RX9 98 "ScaleGroupsModel" "n" "I", Cond.methodLink RX9 101 yX9_isIn, Cond.instanceMethod yX9_isIn, Cond.selects RX9 yX9_isIn yX9_isIn, Cond.code yX9_isIn cX9_isIn 7 (some .boolean), Cond.methodLink RX9 224 yX9_bits, Cond.instanceMethod yX9_bits]
def wsX9_join_r2 : List Cond := [Cond.selects RX9 yX9_bits yX9_bits, Cond.code yX9_bits cX9_bits 4 (some .int), Cond.methodLink RX9 123 yX9_has, Cond.instanceMethod yX9_has, Cond.selects RX9 yX9_has yX9_has, Cond.code yX9_has cX9_has 3 (some .boolean), Cond.methodLink RX9 215 yX9_weightOf, Cond.instanceMethod yX9_weightOf, Cond.selects RX9 yX9_weightOf yX9_weightOf, Cond.code yX9_weightOf cX9_weightOf 4 (some .int), Cond.fieldLink RX9 16 "ScaleGroupsModel" "w" "[I", Cond.methodLink RX9 227 yX9_lasts, Cond.instanceMethod yX9_lasts, Cond.selects RX9 yX9_lasts yX9_lasts, Cond.code yX9_lasts cX9_lasts 4 (some .int), Cond.fieldLink RX9 44 "ScaleGroupsModel" "abovePoint" "[I", Cond.methodLink RX9 218 yX9_root, Cond.instanceMethod yX9_root, Cond.selects RX9 yX9_root yX9_root, Cond.code yX9_root cX9_root 3 (some .int), Cond.methodLink RX9 155 yX9_isNew, Cond.instanceMethod yX9_isNew, Cond.selects RX9 yX9_isNew yX9_isNew, Cond.code yX9_isNew cX9_isNew 3 (some .boolean)]
def wsX9_join_r3 : List Cond := [Cond.fieldLink RX9 145 "ScaleGroupsModel" "isRepaired" "Z", Cond.methodLink RX9 149 yX9_wasJoins, Cond.instanceMethod yX9_wasJoins, Cond.selects RX9 yX9_wasJoins yX9_wasJoins, Cond.code yX9_wasJoins cX9_wasJoins 1 (some .int), Cond.fieldLink RX9 138 "ScaleGroupsModel" "wasMany" "I", Cond.methodLink RX9 152 yX9_areSame, Cond.instanceMethod yX9_areSame, Cond.selects RX9 yX9_areSame yX9_areSame, Cond.code yX9_areSame cX9_areSame 5 (some .boolean), Cond.fieldLink RX9 56 "ScaleGroupsModel" "wasOne" "[I", Cond.fieldLink RX9 59 "ScaleGroupsModel" "wasOther" "[I", Cond.methodLink RX9 141 yX9_placeOf, Cond.instanceMethod yX9_placeOf, Cond.selects RX9 yX9_placeOf yX9_placeOf, Cond.code yX9_placeOf cX9_placeOf 2 (some .int), Cond.fieldLink RX9 13 "ScaleGroupsModel" "y" "[I", Cond.fieldLink RX9 7 "ScaleGroupsModel" "x" "[I"]
def wsX9_join : List Cond := .code yX9_join cX9_join 3 (some .int) :: ((wsX9_join_r1 ++ (wsX9_join_r2 ++ wsX9_join_r3)) ++ wsX90)
def wsX9_meets : List Cond := .code yX9_meets cX9_meets 4 (some .int) :: ([.fieldLink RX9 95 "ScaleGroupsModel" "told" "I", .fieldLink RX9 32 "ScaleGroupsModel" "madeSet" "[I", .methodLink RX9 182 yX9_isPoint, .instanceMethod yX9_isPoint, .selects RX9 yX9_isPoint yX9_isPoint, .initialized RX9, .code yX9_isPoint cX9_isPoint 2 (some .boolean), .fieldLink RX9 98 "ScaleGroupsModel" "n" "I", .methodLink RX9 101 yX9_isIn, .instanceMethod yX9_isIn, .selects RX9 yX9_isIn yX9_isIn, .code yX9_isIn cX9_isIn 7 (some .boolean), .methodLink RX9 123 yX9_has, .instanceMethod yX9_has, .selects RX9 yX9_has yX9_has, .code yX9_has cX9_has 3 (some .boolean)] ++ wsX90)
def wsX9_goesAlong : List Cond := .code yX9_goesAlong cX9_goesAlong 6 (some .boolean) :: ([.fieldLink RX9 65 "ScaleGroupsModel" "way" "[I", .fieldLink RX9 230 "ScaleGroupsModel" "wayLong" "I", .fieldLink RX9 23 "ScaleGroupsModel" "first" "[I", .fieldLink RX9 26 "ScaleGroupsModel" "second" "[I", .methodLink RX9 119 yX9_joins, .instanceMethod yX9_joins, .selects RX9 yX9_joins yX9_joins, .initialized RX9, .code yX9_joins cX9_joins 1 (some .int), .fieldLink RX9 98 "ScaleGroupsModel" "n" "I", .methodLink RX9 233 yX9_goesAlong, .instanceMethod yX9_goesAlong, .selects RX9 yX9_goesAlong yX9_goesAlong] ++ wsX90)
def wsX9_path : List Cond := .code yX9_path cX9_path 4 (some .int) :: ([.fieldLink RX9 95 "ScaleGroupsModel" "told" "I", .fieldLink RX9 230 "ScaleGroupsModel" "wayLong" "I", .fieldLink RX9 65 "ScaleGroupsModel" "way" "[I", .methodLink RX9 182 yX9_isPoint, .instanceMethod yX9_isPoint, .selects RX9 yX9_isPoint yX9_isPoint, .initialized RX9, .code yX9_isPoint cX9_isPoint 2 (some .boolean), .fieldLink RX9 98 "ScaleGroupsModel" "n" "I", .methodLink RX9 101 yX9_isIn, .instanceMethod yX9_isIn, .selects RX9 yX9_isIn yX9_isIn, .code yX9_isIn cX9_isIn 7 (some .boolean), .methodLink RX9 233 yX9_goesAlong, .instanceMethod yX9_goesAlong, .selects RX9 yX9_goesAlong yX9_goesAlong, .code yX9_goesAlong cX9_goesAlong 6 (some .boolean), .fieldLink RX9 23 "ScaleGroupsModel" "first" "[I", .fieldLink RX9 26 "ScaleGroupsModel" "second" "[I", .methodLink RX9 119 yX9_joins, .instanceMethod yX9_joins, .selects RX9 yX9_joins yX9_joins, .code yX9_joins cX9_joins 1 (some .int)] ++ wsX90)
def wsX9_rootsAlong : List Cond := .code yX9_rootsAlong cX9_rootsAlong 5 (some .int) :: ([.fieldLink RX9 230 "ScaleGroupsModel" "wayLong" "I", .fieldLink RX9 65 "ScaleGroupsModel" "way" "[I", .methodLink RX9 233 yX9_goesAlong, .instanceMethod yX9_goesAlong, .selects RX9 yX9_goesAlong yX9_goesAlong, .initialized RX9, .code yX9_goesAlong cX9_goesAlong 6 (some .boolean), .fieldLink RX9 23 "ScaleGroupsModel" "first" "[I", .fieldLink RX9 26 "ScaleGroupsModel" "second" "[I", .methodLink RX9 119 yX9_joins, .instanceMethod yX9_joins, .selects RX9 yX9_joins yX9_joins, .code yX9_joins cX9_joins 1 (some .int), .fieldLink RX9 98 "ScaleGroupsModel" "n" "I", .methodLink RX9 107 yX9_apart, .instanceMethod yX9_apart, .selects RX9 yX9_apart yX9_apart, .code yX9_apart cX9_apart 3 (some .int), .fieldLink RX9 7 "ScaleGroupsModel" "x" "[I", .fieldLink RX9 13 "ScaleGroupsModel" "y" "[I", .methodLink RX9 218 yX9_root, .instanceMethod yX9_root, .selects RX9 yX9_root yX9_root, .code yX9_root cX9_root 3 (some .int)] ++ wsX90)
def wsX9_longest_r1 : List Cond := [Cond.fieldLink RX9 95 "ScaleGroupsModel" "told" "I", Cond.fieldLink RX9 98 "ScaleGroupsModel" "n" "I", Cond.constantLong RX9 237 (2), Cond.methodLink RX9 101 yX9_isIn, Cond.instanceMethod yX9_isIn, Cond.selects RX9 yX9_isIn yX9_isIn, Cond.initialized RX9, Cond.code yX9_isIn cX9_isIn 7 (some .boolean), Cond.methodLink RX9 239 yX9_rootsAlong, Cond.instanceMethod yX9_rootsAlong, Cond.selects RX9 yX9_rootsAlong yX9_rootsAlong, Cond.code yX9_rootsAlong cX9_rootsAlong 5 (some .int), Cond.fieldLink RX9 230 "ScaleGroupsModel" "wayLong" "I", Cond.fieldLink RX9 65 "ScaleGroupsModel" "way" "[I", Cond.methodLink RX9 233 yX9_goesAlong, Cond.instanceMethod yX9_goesAlong, Cond.selects RX9 yX9_goesAlong yX9_goesAlong, Cond.code yX9_goesAlong cX9_goesAlong 6 (some .boolean), Cond.fieldLink RX9 23 "ScaleGroupsModel" "first" "[I", Cond.fieldLink RX9 26 "ScaleGroupsModel" "second" "[I", Cond.methodLink RX9 119 yX9_joins, Cond.instanceMethod yX9_joins, Cond.selects RX9 yX9_joins yX9_joins, Cond.code yX9_joins cX9_joins 1 (some .int)]
def wsX9_longest_r2 : List Cond := [Cond.methodLink RX9 107 yX9_apart, Cond.instanceMethod yX9_apart, Cond.selects RX9 yX9_apart yX9_apart, Cond.code yX9_apart cX9_apart 3 (some .int), Cond.fieldLink RX9 7 "ScaleGroupsModel" "x" "[I", Cond.fieldLink RX9 13 "ScaleGroupsModel" "y" "[I", Cond.methodLink RX9 218 yX9_root, Cond.instanceMethod yX9_root, Cond.selects RX9 yX9_root yX9_root, Cond.code yX9_root cX9_root 3 (some .int)]
def wsX9_longest : List Cond := .code yX9_longest cX9_longest 8 (some .int) :: ((wsX9_longest_r1 ++ wsX9_longest_r2) ++ wsX90)
def wsX9_laysParts : List Cond := .code yX9_laysParts cX9_laysParts 4 none :: ([.fieldLink RX9 98 "ScaleGroupsModel" "n" "I", .fieldLink RX9 68 "ScaleGroupsModel" "partOf" "[I", .fieldLink RX9 32 "ScaleGroupsModel" "madeSet" "[I", .methodLink RX9 123 yX9_has, .instanceMethod yX9_has, .selects RX9 yX9_has yX9_has, .initialized RX9, .code yX9_has cX9_has 3 (some .boolean)] ++ wsX90)
def wsX9_joinsOf : List Cond := .code yX9_joinsOf cX9_joinsOf 3 (some .int) :: ([.fieldLink RX9 29 "ScaleGroupsModel" "wide" "[I", .methodLink RX9 119 yX9_joins, .instanceMethod yX9_joins, .selects RX9 yX9_joins yX9_joins, .initialized RX9, .code yX9_joins cX9_joins 1 (some .int), .fieldLink RX9 98 "ScaleGroupsModel" "n" "I", .methodLink RX9 242 yX9_radius, .instanceMethod yX9_radius, .selects RX9 yX9_radius yX9_radius, .code yX9_radius cX9_radius 2 (some .int)] ++ wsX90)
def wsX9_laysZoom_r1 : List Cond := [Cond.methodLink RX9 245 yX9_joinsOf, Cond.instanceMethod yX9_joinsOf, Cond.selects RX9 yX9_joinsOf yX9_joinsOf, Cond.initialized RX9, Cond.code yX9_joinsOf cX9_joinsOf 3 (some .int), Cond.fieldLink RX9 29 "ScaleGroupsModel" "wide" "[I", Cond.methodLink RX9 119 yX9_joins, Cond.instanceMethod yX9_joins, Cond.selects RX9 yX9_joins yX9_joins, Cond.code yX9_joins cX9_joins 1 (some .int), Cond.fieldLink RX9 98 "ScaleGroupsModel" "n" "I", Cond.methodLink RX9 242 yX9_radius, Cond.instanceMethod yX9_radius, Cond.selects RX9 yX9_radius yX9_radius, Cond.code yX9_radius cX9_radius 2 (some .int), Cond.methodLink RX9 248 yX9_laysParts, Cond.instanceMethod yX9_laysParts, Cond.selects RX9 yX9_laysParts yX9_laysParts, Cond.code yX9_laysParts cX9_laysParts 4 none, Cond.fieldLink RX9 68 "ScaleGroupsModel" "partOf" "[I", Cond.fieldLink RX9 32 "ScaleGroupsModel" "madeSet" "[I", Cond.methodLink RX9 123 yX9_has, Cond.instanceMethod yX9_has, Cond.selects RX9 yX9_has yX9_has]
def wsX9_laysZoom_r2 : List Cond := [Cond.code yX9_has cX9_has 3 (some .boolean)]
def wsX9_laysZoom : List Cond := .code yX9_laysZoom cX9_laysZoom 2 none :: ((wsX9_laysZoom_r1 ++ wsX9_laysZoom_r2) ++ wsX90)
def wsX9_isFirst : List Cond := .code yX9_isFirst cX9_isFirst 2 (some .boolean) :: ([.fieldLink RX9 68 "ScaleGroupsModel" "partOf" "[I", .methodLink RX9 251 yX9_least, .instanceMethod yX9_least, .selects RX9 yX9_least yX9_least, .initialized RX9, .code yX9_least cX9_least 3 (some .int), .methodLink RX9 123 yX9_has, .instanceMethod yX9_has, .selects RX9 yX9_has yX9_has, .code yX9_has cX9_has 3 (some .boolean)] ++ wsX90)
def wsX9_partsNow : List Cond := .code yX9_partsNow cX9_partsNow 3 (some .int) :: ([.fieldLink RX9 98 "ScaleGroupsModel" "n" "I", .methodLink RX9 254 yX9_isFirst, .instanceMethod yX9_isFirst, .selects RX9 yX9_isFirst yX9_isFirst, .initialized RX9, .code yX9_isFirst cX9_isFirst 2 (some .boolean), .fieldLink RX9 68 "ScaleGroupsModel" "partOf" "[I", .methodLink RX9 251 yX9_least, .instanceMethod yX9_least, .selects RX9 yX9_least yX9_least, .code yX9_least cX9_least 3 (some .int), .methodLink RX9 123 yX9_has, .instanceMethod yX9_has, .selects RX9 yX9_has yX9_has, .code yX9_has cX9_has 3 (some .boolean)] ++ wsX90)
def wsX9_groupSet_r1 : List Cond := [Cond.fieldLink RX9 98 "ScaleGroupsModel" "n" "I", Cond.fieldLink RX9 68 "ScaleGroupsModel" "partOf" "[I", Cond.methodLink RX9 257 yX9_isZoom, Cond.instanceMethod yX9_isZoom, Cond.selects RX9 yX9_isZoom yX9_isZoom, Cond.initialized RX9, Cond.code yX9_isZoom cX9_isZoom 2 (some .boolean), Cond.constantLong RX9 105 (10), Cond.methodLink RX9 101 yX9_isIn, Cond.instanceMethod yX9_isIn, Cond.selects RX9 yX9_isIn yX9_isIn, Cond.code yX9_isIn cX9_isIn 7 (some .boolean), Cond.methodLink RX9 260 yX9_laysZoom, Cond.instanceMethod yX9_laysZoom, Cond.selects RX9 yX9_laysZoom yX9_laysZoom, Cond.code yX9_laysZoom cX9_laysZoom 2 none, Cond.methodLink RX9 245 yX9_joinsOf, Cond.instanceMethod yX9_joinsOf, Cond.selects RX9 yX9_joinsOf yX9_joinsOf, Cond.code yX9_joinsOf cX9_joinsOf 3 (some .int), Cond.fieldLink RX9 29 "ScaleGroupsModel" "wide" "[I", Cond.methodLink RX9 119 yX9_joins, Cond.instanceMethod yX9_joins, Cond.selects RX9 yX9_joins yX9_joins]
def wsX9_groupSet_r2 : List Cond := [Cond.code yX9_joins cX9_joins 1 (some .int), Cond.methodLink RX9 242 yX9_radius, Cond.instanceMethod yX9_radius, Cond.selects RX9 yX9_radius yX9_radius, Cond.code yX9_radius cX9_radius 2 (some .int), Cond.methodLink RX9 248 yX9_laysParts, Cond.instanceMethod yX9_laysParts, Cond.selects RX9 yX9_laysParts yX9_laysParts, Cond.code yX9_laysParts cX9_laysParts 4 none, Cond.fieldLink RX9 32 "ScaleGroupsModel" "madeSet" "[I", Cond.methodLink RX9 123 yX9_has, Cond.instanceMethod yX9_has, Cond.selects RX9 yX9_has yX9_has, Cond.code yX9_has cX9_has 3 (some .boolean), Cond.methodLink RX9 254 yX9_isFirst, Cond.instanceMethod yX9_isFirst, Cond.selects RX9 yX9_isFirst yX9_isFirst, Cond.code yX9_isFirst cX9_isFirst 2 (some .boolean), Cond.methodLink RX9 251 yX9_least, Cond.instanceMethod yX9_least, Cond.selects RX9 yX9_least yX9_least, Cond.code yX9_least cX9_least 3 (some .int)]
def wsX9_groupSet : List Cond := .code yX9_groupSet cX9_groupSet 5 (some .int) :: ((wsX9_groupSet_r1 ++ wsX9_groupSet_r2) ++ wsX90)
def wsX9_numberOf : List Cond := .code yX9_numberOf cX9_numberOf 4 (some .int) :: ([.fieldLink RX9 68 "ScaleGroupsModel" "partOf" "[I", .methodLink RX9 251 yX9_least, .instanceMethod yX9_least, .selects RX9 yX9_least yX9_least, .initialized RX9, .code yX9_least cX9_least 3 (some .int), .methodLink RX9 123 yX9_has, .instanceMethod yX9_has, .selects RX9 yX9_has yX9_has, .code yX9_has cX9_has 3 (some .boolean), .methodLink RX9 254 yX9_isFirst, .instanceMethod yX9_isFirst, .selects RX9 yX9_isFirst yX9_isFirst, .code yX9_isFirst cX9_isFirst 2 (some .boolean)] ++ wsX90)
def wsX9_zoom_r1 : List Cond := [Cond.fieldLink RX9 95 "ScaleGroupsModel" "told" "I", Cond.fieldLink RX9 68 "ScaleGroupsModel" "partOf" "[I", Cond.methodLink RX9 182 yX9_isPoint, Cond.instanceMethod yX9_isPoint, Cond.selects RX9 yX9_isPoint yX9_isPoint, Cond.initialized RX9, Cond.code yX9_isPoint cX9_isPoint 2 (some .boolean), Cond.fieldLink RX9 98 "ScaleGroupsModel" "n" "I", Cond.methodLink RX9 101 yX9_isIn, Cond.instanceMethod yX9_isIn, Cond.selects RX9 yX9_isIn yX9_isIn, Cond.code yX9_isIn cX9_isIn 7 (some .boolean), Cond.methodLink RX9 260 yX9_laysZoom, Cond.instanceMethod yX9_laysZoom, Cond.selects RX9 yX9_laysZoom yX9_laysZoom, Cond.code yX9_laysZoom cX9_laysZoom 2 none, Cond.methodLink RX9 245 yX9_joinsOf, Cond.instanceMethod yX9_joinsOf, Cond.selects RX9 yX9_joinsOf yX9_joinsOf, Cond.code yX9_joinsOf cX9_joinsOf 3 (some .int), Cond.fieldLink RX9 29 "ScaleGroupsModel" "wide" "[I", Cond.methodLink RX9 119 yX9_joins, Cond.instanceMethod yX9_joins, Cond.selects RX9 yX9_joins yX9_joins]
def wsX9_zoom_r2 : List Cond := [Cond.code yX9_joins cX9_joins 1 (some .int), Cond.methodLink RX9 242 yX9_radius, Cond.instanceMethod yX9_radius, Cond.selects RX9 yX9_radius yX9_radius, Cond.code yX9_radius cX9_radius 2 (some .int), Cond.methodLink RX9 248 yX9_laysParts, Cond.instanceMethod yX9_laysParts, Cond.selects RX9 yX9_laysParts yX9_laysParts, Cond.code yX9_laysParts cX9_laysParts 4 none, Cond.fieldLink RX9 32 "ScaleGroupsModel" "madeSet" "[I", Cond.methodLink RX9 123 yX9_has, Cond.instanceMethod yX9_has, Cond.selects RX9 yX9_has yX9_has, Cond.code yX9_has cX9_has 3 (some .boolean)]
def wsX9_zoom : List Cond := .code yX9_zoom cX9_zoom 4 (some .int) :: ((wsX9_zoom_r1 ++ wsX9_zoom_r2) ++ wsX90)
def wsX9_groups_r1 : List Cond := [Cond.fieldLink RX9 95 "ScaleGroupsModel" "told" "I", Cond.methodLink RX9 257 yX9_isZoom, Cond.instanceMethod yX9_isZoom, Cond.selects RX9 yX9_isZoom yX9_isZoom, Cond.initialized RX9, Cond.code yX9_isZoom cX9_isZoom 2 (some .boolean), Cond.constantLong RX9 105 (10), Cond.methodLink RX9 101 yX9_isIn, Cond.instanceMethod yX9_isIn, Cond.selects RX9 yX9_isIn yX9_isIn, Cond.code yX9_isIn cX9_isIn 7 (some .boolean), Cond.methodLink RX9 260 yX9_laysZoom, Cond.instanceMethod yX9_laysZoom, Cond.selects RX9 yX9_laysZoom yX9_laysZoom, Cond.code yX9_laysZoom cX9_laysZoom 2 none, Cond.methodLink RX9 245 yX9_joinsOf, Cond.instanceMethod yX9_joinsOf, Cond.selects RX9 yX9_joinsOf yX9_joinsOf, Cond.code yX9_joinsOf cX9_joinsOf 3 (some .int), Cond.fieldLink RX9 29 "ScaleGroupsModel" "wide" "[I", Cond.methodLink RX9 119 yX9_joins, Cond.instanceMethod yX9_joins, Cond.selects RX9 yX9_joins yX9_joins, Cond.code yX9_joins cX9_joins 1 (some .int)]
def wsX9_groups_r2 : List Cond := [Cond.fieldLink RX9 98 "ScaleGroupsModel" "n" "I", Cond.methodLink RX9 242 yX9_radius, Cond.instanceMethod yX9_radius, Cond.selects RX9 yX9_radius yX9_radius, Cond.code yX9_radius cX9_radius 2 (some .int), Cond.methodLink RX9 248 yX9_laysParts, Cond.instanceMethod yX9_laysParts, Cond.selects RX9 yX9_laysParts yX9_laysParts, Cond.code yX9_laysParts cX9_laysParts 4 none, Cond.fieldLink RX9 68 "ScaleGroupsModel" "partOf" "[I", Cond.fieldLink RX9 32 "ScaleGroupsModel" "madeSet" "[I", Cond.methodLink RX9 123 yX9_has, Cond.instanceMethod yX9_has, Cond.selects RX9 yX9_has yX9_has, Cond.code yX9_has cX9_has 3 (some .boolean), Cond.methodLink RX9 263 yX9_partsNow, Cond.instanceMethod yX9_partsNow, Cond.selects RX9 yX9_partsNow yX9_partsNow, Cond.code yX9_partsNow cX9_partsNow 3 (some .int), Cond.methodLink RX9 254 yX9_isFirst, Cond.instanceMethod yX9_isFirst, Cond.selects RX9 yX9_isFirst yX9_isFirst, Cond.code yX9_isFirst cX9_isFirst 2 (some .boolean), Cond.methodLink RX9 251 yX9_least]
def wsX9_groups_r3 : List Cond := [Cond.instanceMethod yX9_least, Cond.selects RX9 yX9_least yX9_least, Cond.code yX9_least cX9_least 3 (some .int)]
def wsX9_groups : List Cond := .code yX9_groups cX9_groups 2 (some .int) :: ((wsX9_groups_r1 ++ (wsX9_groups_r2 ++ wsX9_groups_r3)) ++ wsX90)
def wsX9_groupOf_r1 : List Cond := [Cond.fieldLink RX9 95 "ScaleGroupsModel" "told" "I", Cond.methodLink RX9 257 yX9_isZoom, Cond.instanceMethod yX9_isZoom, Cond.selects RX9 yX9_isZoom yX9_isZoom, Cond.initialized RX9, Cond.code yX9_isZoom cX9_isZoom 2 (some .boolean), Cond.constantLong RX9 105 (10), Cond.methodLink RX9 101 yX9_isIn, Cond.instanceMethod yX9_isIn, Cond.selects RX9 yX9_isIn yX9_isIn, Cond.code yX9_isIn cX9_isIn 7 (some .boolean), Cond.methodLink RX9 182 yX9_isPoint, Cond.instanceMethod yX9_isPoint, Cond.selects RX9 yX9_isPoint yX9_isPoint, Cond.code yX9_isPoint cX9_isPoint 2 (some .boolean), Cond.fieldLink RX9 98 "ScaleGroupsModel" "n" "I", Cond.methodLink RX9 260 yX9_laysZoom, Cond.instanceMethod yX9_laysZoom, Cond.selects RX9 yX9_laysZoom yX9_laysZoom, Cond.code yX9_laysZoom cX9_laysZoom 2 none, Cond.methodLink RX9 245 yX9_joinsOf, Cond.instanceMethod yX9_joinsOf, Cond.selects RX9 yX9_joinsOf yX9_joinsOf, Cond.code yX9_joinsOf cX9_joinsOf 3 (some .int)]
def wsX9_groupOf_r2 : List Cond := [Cond.fieldLink RX9 29 "ScaleGroupsModel" "wide" "[I", Cond.methodLink RX9 119 yX9_joins, Cond.instanceMethod yX9_joins, Cond.selects RX9 yX9_joins yX9_joins, Cond.code yX9_joins cX9_joins 1 (some .int), Cond.methodLink RX9 242 yX9_radius, Cond.instanceMethod yX9_radius, Cond.selects RX9 yX9_radius yX9_radius, Cond.code yX9_radius cX9_radius 2 (some .int), Cond.methodLink RX9 248 yX9_laysParts, Cond.instanceMethod yX9_laysParts, Cond.selects RX9 yX9_laysParts yX9_laysParts, Cond.code yX9_laysParts cX9_laysParts 4 none, Cond.fieldLink RX9 68 "ScaleGroupsModel" "partOf" "[I", Cond.fieldLink RX9 32 "ScaleGroupsModel" "madeSet" "[I", Cond.methodLink RX9 123 yX9_has, Cond.instanceMethod yX9_has, Cond.selects RX9 yX9_has yX9_has, Cond.code yX9_has cX9_has 3 (some .boolean), Cond.methodLink RX9 266 yX9_numberOf, Cond.instanceMethod yX9_numberOf, Cond.selects RX9 yX9_numberOf yX9_numberOf, Cond.code yX9_numberOf cX9_numberOf 4 (some .int), Cond.methodLink RX9 251 yX9_least]
def wsX9_groupOf_r3 : List Cond := [Cond.instanceMethod yX9_least, Cond.selects RX9 yX9_least yX9_least, Cond.code yX9_least cX9_least 3 (some .int), Cond.methodLink RX9 254 yX9_isFirst, Cond.instanceMethod yX9_isFirst, Cond.selects RX9 yX9_isFirst yX9_isFirst, Cond.code yX9_isFirst cX9_isFirst 2 (some .boolean)]
def wsX9_groupOf : List Cond := .code yX9_groupOf cX9_groupOf 3 (some .int) :: ((wsX9_groupOf_r1 ++ (wsX9_groupOf_r2 ++ wsX9_groupOf_r3)) ++ wsX90)
def wsX9_centre : List Cond := .code yX9_centre cX9_centre 5 (some .int) :: ([.fieldLink RX9 98 "ScaleGroupsModel" "n" "I", .fieldLink RX9 16 "ScaleGroupsModel" "w" "[I", .fieldLink RX9 7 "ScaleGroupsModel" "x" "[I", .fieldLink RX9 13 "ScaleGroupsModel" "y" "[I", .methodLink RX9 123 yX9_has, .instanceMethod yX9_has, .selects RX9 yX9_has yX9_has, .initialized RX9, .code yX9_has cX9_has 3 (some .boolean), .methodLink RX9 215 yX9_weightOf, .instanceMethod yX9_weightOf, .selects RX9 yX9_weightOf yX9_weightOf, .code yX9_weightOf cX9_weightOf 4 (some .int)] ++ wsX90)
def wsX9_bound : List Cond := .code yX9_bound cX9_bound 7 (some .int) :: ([.fieldLink RX9 98 "ScaleGroupsModel" "n" "I", .fieldLink RX9 7 "ScaleGroupsModel" "x" "[I", .fieldLink RX9 13 "ScaleGroupsModel" "y" "[I", .methodLink RX9 123 yX9_has, .instanceMethod yX9_has, .selects RX9 yX9_has yX9_has, .initialized RX9, .code yX9_has cX9_has 3 (some .boolean)] ++ wsX90)
def wsX9_topOf : List Cond := .code yX9_topOf cX9_topOf 4 (some .int) :: ([.fieldLink RX9 98 "ScaleGroupsModel" "n" "I", .fieldLink RX9 16 "ScaleGroupsModel" "w" "[I", .methodLink RX9 123 yX9_has, .instanceMethod yX9_has, .selects RX9 yX9_has yX9_has, .initialized RX9, .code yX9_has cX9_has 3 (some .boolean)] ++ wsX90)
def wsX9_makerOf : List Cond := .code yX9_makerOf cX9_makerOf 3 (some .int) :: ([.fieldLink RX9 32 "ScaleGroupsModel" "madeSet" "[I", .methodLink RX9 119 yX9_joins, .instanceMethod yX9_joins, .selects RX9 yX9_joins yX9_joins, .initialized RX9, .code yX9_joins cX9_joins 1 (some .int), .fieldLink RX9 98 "ScaleGroupsModel" "n" "I"] ++ wsX90)
def wsX9_widest : List Cond := .code yX9_widest cX9_widest 5 (some .int) :: ([.fieldLink RX9 98 "ScaleGroupsModel" "n" "I", .methodLink RX9 116 Lib.Math.max.name, .static Lib.Math.max.name, .initialized "java/lang/Math", .code Lib.Math.max.name Lib.Math.max.code 2 (some .int), .methodLink RX9 123 yX9_has, .instanceMethod yX9_has, .selects RX9 yX9_has yX9_has, .initialized RX9, .code yX9_has cX9_has 3 (some .boolean), .methodLink RX9 107 yX9_apart, .instanceMethod yX9_apart, .selects RX9 yX9_apart yX9_apart, .code yX9_apart cX9_apart 3 (some .int), .fieldLink RX9 7 "ScaleGroupsModel" "x" "[I", .fieldLink RX9 13 "ScaleGroupsModel" "y" "[I"] ++ wsX90)
def wsX9_splitsInto_r1 : List Cond := [Cond.fieldLink RX9 98 "ScaleGroupsModel" "n" "I", Cond.methodLink RX9 260 yX9_laysZoom, Cond.instanceMethod yX9_laysZoom, Cond.selects RX9 yX9_laysZoom yX9_laysZoom, Cond.initialized RX9, Cond.code yX9_laysZoom cX9_laysZoom 2 none, Cond.methodLink RX9 245 yX9_joinsOf, Cond.instanceMethod yX9_joinsOf, Cond.selects RX9 yX9_joinsOf yX9_joinsOf, Cond.code yX9_joinsOf cX9_joinsOf 3 (some .int), Cond.fieldLink RX9 29 "ScaleGroupsModel" "wide" "[I", Cond.methodLink RX9 119 yX9_joins, Cond.instanceMethod yX9_joins, Cond.selects RX9 yX9_joins yX9_joins, Cond.code yX9_joins cX9_joins 1 (some .int), Cond.methodLink RX9 242 yX9_radius, Cond.instanceMethod yX9_radius, Cond.selects RX9 yX9_radius yX9_radius, Cond.code yX9_radius cX9_radius 2 (some .int), Cond.methodLink RX9 248 yX9_laysParts, Cond.instanceMethod yX9_laysParts, Cond.selects RX9 yX9_laysParts yX9_laysParts, Cond.code yX9_laysParts cX9_laysParts 4 none, Cond.fieldLink RX9 68 "ScaleGroupsModel" "partOf" "[I"]
def wsX9_splitsInto_r2 : List Cond := [Cond.fieldLink RX9 32 "ScaleGroupsModel" "madeSet" "[I", Cond.methodLink RX9 123 yX9_has, Cond.instanceMethod yX9_has, Cond.selects RX9 yX9_has yX9_has, Cond.code yX9_has cX9_has 3 (some .boolean), Cond.methodLink RX9 254 yX9_isFirst, Cond.instanceMethod yX9_isFirst, Cond.selects RX9 yX9_isFirst yX9_isFirst, Cond.code yX9_isFirst cX9_isFirst 2 (some .boolean), Cond.methodLink RX9 251 yX9_least, Cond.instanceMethod yX9_least, Cond.selects RX9 yX9_least yX9_least, Cond.code yX9_least cX9_least 3 (some .int)]
def wsX9_splitsInto : List Cond := .code yX9_splitsInto cX9_splitsInto 5 (some .int) :: ((wsX9_splitsInto_r1 ++ wsX9_splitsInto_r2) ++ wsX90)
def wsX9_group_r1 : List Cond := [Cond.fieldLink RX9 95 "ScaleGroupsModel" "told" "I", Cond.methodLink RX9 269 yX9_groupSet, Cond.instanceMethod yX9_groupSet, Cond.selects RX9 yX9_groupSet yX9_groupSet, Cond.initialized RX9, Cond.code yX9_groupSet cX9_groupSet 5 (some .int), Cond.fieldLink RX9 98 "ScaleGroupsModel" "n" "I", Cond.fieldLink RX9 68 "ScaleGroupsModel" "partOf" "[I", Cond.methodLink RX9 257 yX9_isZoom, Cond.instanceMethod yX9_isZoom, Cond.selects RX9 yX9_isZoom yX9_isZoom, Cond.code yX9_isZoom cX9_isZoom 2 (some .boolean), Cond.constantLong RX9 105 (10), Cond.methodLink RX9 101 yX9_isIn, Cond.instanceMethod yX9_isIn, Cond.selects RX9 yX9_isIn yX9_isIn, Cond.code yX9_isIn cX9_isIn 7 (some .boolean), Cond.methodLink RX9 260 yX9_laysZoom, Cond.instanceMethod yX9_laysZoom, Cond.selects RX9 yX9_laysZoom yX9_laysZoom, Cond.code yX9_laysZoom cX9_laysZoom 2 none, Cond.methodLink RX9 245 yX9_joinsOf, Cond.instanceMethod yX9_joinsOf, Cond.selects RX9 yX9_joinsOf yX9_joinsOf]
def wsX9_group_r2 : List Cond := [Cond.code yX9_joinsOf cX9_joinsOf 3 (some .int), Cond.fieldLink RX9 29 "ScaleGroupsModel" "wide" "[I", Cond.methodLink RX9 119 yX9_joins, Cond.instanceMethod yX9_joins, Cond.selects RX9 yX9_joins yX9_joins, Cond.code yX9_joins cX9_joins 1 (some .int), Cond.methodLink RX9 242 yX9_radius, Cond.instanceMethod yX9_radius, Cond.selects RX9 yX9_radius yX9_radius, Cond.code yX9_radius cX9_radius 2 (some .int), Cond.methodLink RX9 248 yX9_laysParts, Cond.instanceMethod yX9_laysParts, Cond.selects RX9 yX9_laysParts yX9_laysParts, Cond.code yX9_laysParts cX9_laysParts 4 none, Cond.fieldLink RX9 32 "ScaleGroupsModel" "madeSet" "[I", Cond.methodLink RX9 123 yX9_has, Cond.instanceMethod yX9_has, Cond.selects RX9 yX9_has yX9_has, Cond.code yX9_has cX9_has 3 (some .boolean), Cond.methodLink RX9 254 yX9_isFirst, Cond.instanceMethod yX9_isFirst, Cond.selects RX9 yX9_isFirst yX9_isFirst, Cond.code yX9_isFirst cX9_isFirst 2 (some .boolean), Cond.methodLink RX9 251 yX9_least]
def wsX9_group_r3 : List Cond := [Cond.instanceMethod yX9_least, Cond.selects RX9 yX9_least yX9_least, Cond.code yX9_least cX9_least 3 (some .int), Cond.methodLink RX9 224 yX9_bits, Cond.instanceMethod yX9_bits, Cond.selects RX9 yX9_bits yX9_bits, Cond.code yX9_bits cX9_bits 4 (some .int), Cond.methodLink RX9 215 yX9_weightOf, Cond.instanceMethod yX9_weightOf, Cond.selects RX9 yX9_weightOf yX9_weightOf, Cond.code yX9_weightOf cX9_weightOf 4 (some .int), Cond.fieldLink RX9 16 "ScaleGroupsModel" "w" "[I", Cond.methodLink RX9 272 yX9_bound, Cond.instanceMethod yX9_bound, Cond.selects RX9 yX9_bound yX9_bound, Cond.code yX9_bound cX9_bound 7 (some .int), Cond.fieldLink RX9 7 "ScaleGroupsModel" "x" "[I", Cond.fieldLink RX9 13 "ScaleGroupsModel" "y" "[I", Cond.methodLink RX9 276 yX9_centre, Cond.instanceMethod yX9_centre, Cond.selects RX9 yX9_centre yX9_centre, Cond.code yX9_centre cX9_centre 5 (some .int), Cond.methodLink RX9 280 yX9_topOf, Cond.instanceMethod yX9_topOf]
def wsX9_group_r4 : List Cond := [Cond.selects RX9 yX9_topOf yX9_topOf, Cond.code yX9_topOf cX9_topOf 4 (some .int), Cond.methodLink RX9 283 yX9_makerOf, Cond.instanceMethod yX9_makerOf, Cond.selects RX9 yX9_makerOf yX9_makerOf, Cond.code yX9_makerOf cX9_makerOf 3 (some .int), Cond.methodLink RX9 286 yX9_splitsInto, Cond.instanceMethod yX9_splitsInto, Cond.selects RX9 yX9_splitsInto yX9_splitsInto, Cond.code yX9_splitsInto cX9_splitsInto 5 (some .int), Cond.methodLink RX9 289 yX9_widest, Cond.instanceMethod yX9_widest, Cond.selects RX9 yX9_widest yX9_widest, Cond.code yX9_widest cX9_widest 5 (some .int), Cond.methodLink RX9 116 Lib.Math.max.name, Cond.static Lib.Math.max.name, Cond.initialized "java/lang/Math", Cond.code Lib.Math.max.name Lib.Math.max.code 2 (some .int), Cond.methodLink RX9 107 yX9_apart, Cond.instanceMethod yX9_apart, Cond.selects RX9 yX9_apart yX9_apart, Cond.code yX9_apart cX9_apart 3 (some .int)]
def wsX9_group : List Cond := .code yX9_group cX9_group 5 (some .int) :: ((wsX9_group_r1 ++ (wsX9_group_r2 ++ (wsX9_group_r3 ++ wsX9_group_r4))) ++ wsX90)
def wsX9_member_r1 : List Cond := [Cond.fieldLink RX9 95 "ScaleGroupsModel" "told" "I", Cond.fieldLink RX9 98 "ScaleGroupsModel" "n" "I", Cond.methodLink RX9 269 yX9_groupSet, Cond.instanceMethod yX9_groupSet, Cond.selects RX9 yX9_groupSet yX9_groupSet, Cond.initialized RX9, Cond.code yX9_groupSet cX9_groupSet 5 (some .int), Cond.fieldLink RX9 68 "ScaleGroupsModel" "partOf" "[I", Cond.methodLink RX9 257 yX9_isZoom, Cond.instanceMethod yX9_isZoom, Cond.selects RX9 yX9_isZoom yX9_isZoom, Cond.code yX9_isZoom cX9_isZoom 2 (some .boolean), Cond.constantLong RX9 105 (10), Cond.methodLink RX9 101 yX9_isIn, Cond.instanceMethod yX9_isIn, Cond.selects RX9 yX9_isIn yX9_isIn, Cond.code yX9_isIn cX9_isIn 7 (some .boolean), Cond.methodLink RX9 260 yX9_laysZoom, Cond.instanceMethod yX9_laysZoom, Cond.selects RX9 yX9_laysZoom yX9_laysZoom, Cond.code yX9_laysZoom cX9_laysZoom 2 none, Cond.methodLink RX9 245 yX9_joinsOf, Cond.instanceMethod yX9_joinsOf, Cond.selects RX9 yX9_joinsOf yX9_joinsOf]
def wsX9_member_r2 : List Cond := [Cond.code yX9_joinsOf cX9_joinsOf 3 (some .int), Cond.fieldLink RX9 29 "ScaleGroupsModel" "wide" "[I", Cond.methodLink RX9 119 yX9_joins, Cond.instanceMethod yX9_joins, Cond.selects RX9 yX9_joins yX9_joins, Cond.code yX9_joins cX9_joins 1 (some .int), Cond.methodLink RX9 242 yX9_radius, Cond.instanceMethod yX9_radius, Cond.selects RX9 yX9_radius yX9_radius, Cond.code yX9_radius cX9_radius 2 (some .int), Cond.methodLink RX9 248 yX9_laysParts, Cond.instanceMethod yX9_laysParts, Cond.selects RX9 yX9_laysParts yX9_laysParts, Cond.code yX9_laysParts cX9_laysParts 4 none, Cond.fieldLink RX9 32 "ScaleGroupsModel" "madeSet" "[I", Cond.methodLink RX9 123 yX9_has, Cond.instanceMethod yX9_has, Cond.selects RX9 yX9_has yX9_has, Cond.code yX9_has cX9_has 3 (some .boolean), Cond.methodLink RX9 254 yX9_isFirst, Cond.instanceMethod yX9_isFirst, Cond.selects RX9 yX9_isFirst yX9_isFirst, Cond.code yX9_isFirst cX9_isFirst 2 (some .boolean), Cond.methodLink RX9 251 yX9_least]
def wsX9_member_r3 : List Cond := [Cond.instanceMethod yX9_least, Cond.selects RX9 yX9_least yX9_least, Cond.code yX9_least cX9_least 3 (some .int)]
def wsX9_member : List Cond := .code yX9_member cX9_member 7 (some .int) :: ((wsX9_member_r1 ++ (wsX9_member_r2 ++ wsX9_member_r3)) ++ wsX90)
def wsX9_splits_r1 : List Cond := [Cond.fieldLink RX9 95 "ScaleGroupsModel" "told" "I", Cond.fieldLink RX9 98 "ScaleGroupsModel" "n" "I", Cond.methodLink RX9 269 yX9_groupSet, Cond.instanceMethod yX9_groupSet, Cond.selects RX9 yX9_groupSet yX9_groupSet, Cond.initialized RX9, Cond.code yX9_groupSet cX9_groupSet 5 (some .int), Cond.fieldLink RX9 68 "ScaleGroupsModel" "partOf" "[I", Cond.methodLink RX9 257 yX9_isZoom, Cond.instanceMethod yX9_isZoom, Cond.selects RX9 yX9_isZoom yX9_isZoom, Cond.code yX9_isZoom cX9_isZoom 2 (some .boolean), Cond.constantLong RX9 105 (10), Cond.methodLink RX9 101 yX9_isIn, Cond.instanceMethod yX9_isIn, Cond.selects RX9 yX9_isIn yX9_isIn, Cond.code yX9_isIn cX9_isIn 7 (some .boolean), Cond.methodLink RX9 260 yX9_laysZoom, Cond.instanceMethod yX9_laysZoom, Cond.selects RX9 yX9_laysZoom yX9_laysZoom, Cond.code yX9_laysZoom cX9_laysZoom 2 none, Cond.methodLink RX9 245 yX9_joinsOf, Cond.instanceMethod yX9_joinsOf, Cond.selects RX9 yX9_joinsOf yX9_joinsOf]
def wsX9_splits_r2 : List Cond := [Cond.code yX9_joinsOf cX9_joinsOf 3 (some .int), Cond.fieldLink RX9 29 "ScaleGroupsModel" "wide" "[I", Cond.methodLink RX9 119 yX9_joins, Cond.instanceMethod yX9_joins, Cond.selects RX9 yX9_joins yX9_joins, Cond.code yX9_joins cX9_joins 1 (some .int), Cond.methodLink RX9 242 yX9_radius, Cond.instanceMethod yX9_radius, Cond.selects RX9 yX9_radius yX9_radius, Cond.code yX9_radius cX9_radius 2 (some .int), Cond.methodLink RX9 248 yX9_laysParts, Cond.instanceMethod yX9_laysParts, Cond.selects RX9 yX9_laysParts yX9_laysParts, Cond.code yX9_laysParts cX9_laysParts 4 none, Cond.fieldLink RX9 32 "ScaleGroupsModel" "madeSet" "[I", Cond.methodLink RX9 123 yX9_has, Cond.instanceMethod yX9_has, Cond.selects RX9 yX9_has yX9_has, Cond.code yX9_has cX9_has 3 (some .boolean), Cond.methodLink RX9 254 yX9_isFirst, Cond.instanceMethod yX9_isFirst, Cond.selects RX9 yX9_isFirst yX9_isFirst, Cond.code yX9_isFirst cX9_isFirst 2 (some .boolean), Cond.methodLink RX9 251 yX9_least]
def wsX9_splits_r3 : List Cond := [Cond.instanceMethod yX9_least, Cond.selects RX9 yX9_least yX9_least, Cond.code yX9_least cX9_least 3 (some .int), Cond.methodLink RX9 266 yX9_numberOf, Cond.instanceMethod yX9_numberOf, Cond.selects RX9 yX9_numberOf yX9_numberOf, Cond.code yX9_numberOf cX9_numberOf 4 (some .int)]
def wsX9_splits : List Cond := .code yX9_splits cX9_splits 7 (some .int) :: ((wsX9_splits_r1 ++ (wsX9_splits_r2 ++ wsX9_splits_r3)) ++ wsX90)
def wsX9_isWithin : List Cond := .code yX9_isWithin cX9_isWithin 7 (some .boolean) :: ([])
def wsX9_isCentred : List Cond := .code yX9_isCentred cX9_isCentred 6 (some .boolean) :: ([.methodLink RX9 276 yX9_centre, .instanceMethod yX9_centre, .selects RX9 yX9_centre yX9_centre, .initialized RX9, .code yX9_centre cX9_centre 5 (some .int), .fieldLink RX9 98 "ScaleGroupsModel" "n" "I", .fieldLink RX9 16 "ScaleGroupsModel" "w" "[I", .fieldLink RX9 7 "ScaleGroupsModel" "x" "[I", .fieldLink RX9 13 "ScaleGroupsModel" "y" "[I", .methodLink RX9 123 yX9_has, .instanceMethod yX9_has, .selects RX9 yX9_has yX9_has, .code yX9_has cX9_has 3 (some .boolean), .methodLink RX9 215 yX9_weightOf, .instanceMethod yX9_weightOf, .selects RX9 yX9_weightOf yX9_weightOf, .code yX9_weightOf cX9_weightOf 4 (some .int), .methodLink RX9 292 yX9_isWithin, .instanceMethod yX9_isWithin, .selects RX9 yX9_isWithin yX9_isWithin, .code yX9_isWithin cX9_isWithin 7 (some .boolean)] ++ wsX90)
def wsX9_pointsIn : List Cond := .code yX9_pointsIn cX9_pointsIn 7 (some .int) :: ([.fieldLink RX9 98 "ScaleGroupsModel" "n" "I", .fieldLink RX9 7 "ScaleGroupsModel" "x" "[I", .fieldLink RX9 13 "ScaleGroupsModel" "y" "[I", .methodLink RX9 292 yX9_isWithin, .instanceMethod yX9_isWithin, .selects RX9 yX9_isWithin yX9_isWithin, .initialized RX9, .code yX9_isWithin cX9_isWithin 7 (some .boolean)] ++ wsX90)
def wsX9_centredIn_r1 : List Cond := [Cond.fieldLink RX9 98 "ScaleGroupsModel" "n" "I", Cond.fieldLink RX9 68 "ScaleGroupsModel" "partOf" "[I", Cond.methodLink RX9 254 yX9_isFirst, Cond.instanceMethod yX9_isFirst, Cond.selects RX9 yX9_isFirst yX9_isFirst, Cond.initialized RX9, Cond.code yX9_isFirst cX9_isFirst 2 (some .boolean), Cond.methodLink RX9 251 yX9_least, Cond.instanceMethod yX9_least, Cond.selects RX9 yX9_least yX9_least, Cond.code yX9_least cX9_least 3 (some .int), Cond.methodLink RX9 123 yX9_has, Cond.instanceMethod yX9_has, Cond.selects RX9 yX9_has yX9_has, Cond.code yX9_has cX9_has 3 (some .boolean), Cond.methodLink RX9 296 yX9_isCentred, Cond.instanceMethod yX9_isCentred, Cond.selects RX9 yX9_isCentred yX9_isCentred, Cond.code yX9_isCentred cX9_isCentred 6 (some .boolean), Cond.methodLink RX9 276 yX9_centre, Cond.instanceMethod yX9_centre, Cond.selects RX9 yX9_centre yX9_centre, Cond.code yX9_centre cX9_centre 5 (some .int), Cond.fieldLink RX9 16 "ScaleGroupsModel" "w" "[I"]
def wsX9_centredIn_r2 : List Cond := [Cond.fieldLink RX9 7 "ScaleGroupsModel" "x" "[I", Cond.fieldLink RX9 13 "ScaleGroupsModel" "y" "[I", Cond.methodLink RX9 215 yX9_weightOf, Cond.instanceMethod yX9_weightOf, Cond.selects RX9 yX9_weightOf yX9_weightOf, Cond.code yX9_weightOf cX9_weightOf 4 (some .int), Cond.methodLink RX9 292 yX9_isWithin, Cond.instanceMethod yX9_isWithin, Cond.selects RX9 yX9_isWithin yX9_isWithin, Cond.code yX9_isWithin cX9_isWithin 7 (some .boolean)]
def wsX9_centredIn : List Cond := .code yX9_centredIn cX9_centredIn 8 (some .int) :: ((wsX9_centredIn_r1 ++ wsX9_centredIn_r2) ++ wsX90)
def wsX9_window_r1 : List Cond := [Cond.fieldLink RX9 95 "ScaleGroupsModel" "told" "I", Cond.constantLong RX9 300 (3), Cond.methodLink RX9 257 yX9_isZoom, Cond.instanceMethod yX9_isZoom, Cond.selects RX9 yX9_isZoom yX9_isZoom, Cond.initialized RX9, Cond.code yX9_isZoom cX9_isZoom 2 (some .boolean), Cond.constantLong RX9 105 (10), Cond.methodLink RX9 101 yX9_isIn, Cond.instanceMethod yX9_isIn, Cond.selects RX9 yX9_isIn yX9_isIn, Cond.code yX9_isIn cX9_isIn 7 (some .boolean), Cond.methodLink RX9 260 yX9_laysZoom, Cond.instanceMethod yX9_laysZoom, Cond.selects RX9 yX9_laysZoom yX9_laysZoom, Cond.code yX9_laysZoom cX9_laysZoom 2 none, Cond.methodLink RX9 245 yX9_joinsOf, Cond.instanceMethod yX9_joinsOf, Cond.selects RX9 yX9_joinsOf yX9_joinsOf, Cond.code yX9_joinsOf cX9_joinsOf 3 (some .int), Cond.fieldLink RX9 29 "ScaleGroupsModel" "wide" "[I", Cond.methodLink RX9 119 yX9_joins, Cond.instanceMethod yX9_joins, Cond.selects RX9 yX9_joins yX9_joins]
def wsX9_window_r2 : List Cond := [Cond.code yX9_joins cX9_joins 1 (some .int), Cond.fieldLink RX9 98 "ScaleGroupsModel" "n" "I", Cond.methodLink RX9 242 yX9_radius, Cond.instanceMethod yX9_radius, Cond.selects RX9 yX9_radius yX9_radius, Cond.code yX9_radius cX9_radius 2 (some .int), Cond.methodLink RX9 248 yX9_laysParts, Cond.instanceMethod yX9_laysParts, Cond.selects RX9 yX9_laysParts yX9_laysParts, Cond.code yX9_laysParts cX9_laysParts 4 none, Cond.fieldLink RX9 68 "ScaleGroupsModel" "partOf" "[I", Cond.fieldLink RX9 32 "ScaleGroupsModel" "madeSet" "[I", Cond.methodLink RX9 123 yX9_has, Cond.instanceMethod yX9_has, Cond.selects RX9 yX9_has yX9_has, Cond.code yX9_has cX9_has 3 (some .boolean), Cond.methodLink RX9 302 yX9_centredIn, Cond.instanceMethod yX9_centredIn, Cond.selects RX9 yX9_centredIn yX9_centredIn, Cond.code yX9_centredIn cX9_centredIn 8 (some .int), Cond.methodLink RX9 254 yX9_isFirst, Cond.instanceMethod yX9_isFirst, Cond.selects RX9 yX9_isFirst yX9_isFirst, Cond.code yX9_isFirst cX9_isFirst 2 (some .boolean)]
def wsX9_window_r3 : List Cond := [Cond.methodLink RX9 251 yX9_least, Cond.instanceMethod yX9_least, Cond.selects RX9 yX9_least yX9_least, Cond.code yX9_least cX9_least 3 (some .int), Cond.methodLink RX9 296 yX9_isCentred, Cond.instanceMethod yX9_isCentred, Cond.selects RX9 yX9_isCentred yX9_isCentred, Cond.code yX9_isCentred cX9_isCentred 6 (some .boolean), Cond.methodLink RX9 276 yX9_centre, Cond.instanceMethod yX9_centre, Cond.selects RX9 yX9_centre yX9_centre, Cond.code yX9_centre cX9_centre 5 (some .int), Cond.fieldLink RX9 16 "ScaleGroupsModel" "w" "[I", Cond.fieldLink RX9 7 "ScaleGroupsModel" "x" "[I", Cond.fieldLink RX9 13 "ScaleGroupsModel" "y" "[I", Cond.methodLink RX9 215 yX9_weightOf, Cond.instanceMethod yX9_weightOf, Cond.selects RX9 yX9_weightOf yX9_weightOf, Cond.code yX9_weightOf cX9_weightOf 4 (some .int), Cond.methodLink RX9 292 yX9_isWithin, Cond.instanceMethod yX9_isWithin, Cond.selects RX9 yX9_isWithin yX9_isWithin, Cond.code yX9_isWithin cX9_isWithin 7 (some .boolean), Cond.methodLink RX9 306 yX9_pointsIn]
def wsX9_window_r4 : List Cond := [Cond.instanceMethod yX9_pointsIn, Cond.selects RX9 yX9_pointsIn yX9_pointsIn, Cond.code yX9_pointsIn cX9_pointsIn 7 (some .int), Cond.methodLink RX9 224 yX9_bits, Cond.instanceMethod yX9_bits, Cond.selects RX9 yX9_bits yX9_bits, Cond.code yX9_bits cX9_bits 4 (some .int)]
def wsX9_window : List Cond := .code yX9_window cX9_window 8 (some .int) :: ((wsX9_window_r1 ++ (wsX9_window_r2 ++ (wsX9_window_r3 ++ wsX9_window_r4))) ++ wsX90)
def wsX9_top_r1 : List Cond := [Cond.fieldLink RX9 95 "ScaleGroupsModel" "told" "I", Cond.fieldLink RX9 98 "ScaleGroupsModel" "n" "I", Cond.fieldLink RX9 68 "ScaleGroupsModel" "partOf" "[I", Cond.methodLink RX9 257 yX9_isZoom, Cond.instanceMethod yX9_isZoom, Cond.selects RX9 yX9_isZoom yX9_isZoom, Cond.initialized RX9, Cond.code yX9_isZoom cX9_isZoom 2 (some .boolean), Cond.constantLong RX9 105 (10), Cond.methodLink RX9 101 yX9_isIn, Cond.instanceMethod yX9_isIn, Cond.selects RX9 yX9_isIn yX9_isIn, Cond.code yX9_isIn cX9_isIn 7 (some .boolean), Cond.methodLink RX9 260 yX9_laysZoom, Cond.instanceMethod yX9_laysZoom, Cond.selects RX9 yX9_laysZoom yX9_laysZoom, Cond.code yX9_laysZoom cX9_laysZoom 2 none, Cond.methodLink RX9 245 yX9_joinsOf, Cond.instanceMethod yX9_joinsOf, Cond.selects RX9 yX9_joinsOf yX9_joinsOf, Cond.code yX9_joinsOf cX9_joinsOf 3 (some .int), Cond.fieldLink RX9 29 "ScaleGroupsModel" "wide" "[I", Cond.methodLink RX9 119 yX9_joins, Cond.instanceMethod yX9_joins]
def wsX9_top_r2 : List Cond := [Cond.selects RX9 yX9_joins yX9_joins, Cond.code yX9_joins cX9_joins 1 (some .int), Cond.methodLink RX9 242 yX9_radius, Cond.instanceMethod yX9_radius, Cond.selects RX9 yX9_radius yX9_radius, Cond.code yX9_radius cX9_radius 2 (some .int), Cond.methodLink RX9 248 yX9_laysParts, Cond.instanceMethod yX9_laysParts, Cond.selects RX9 yX9_laysParts yX9_laysParts, Cond.code yX9_laysParts cX9_laysParts 4 none, Cond.fieldLink RX9 32 "ScaleGroupsModel" "madeSet" "[I", Cond.methodLink RX9 123 yX9_has, Cond.instanceMethod yX9_has, Cond.selects RX9 yX9_has yX9_has, Cond.code yX9_has cX9_has 3 (some .boolean), Cond.methodLink RX9 254 yX9_isFirst, Cond.instanceMethod yX9_isFirst, Cond.selects RX9 yX9_isFirst yX9_isFirst, Cond.code yX9_isFirst cX9_isFirst 2 (some .boolean), Cond.methodLink RX9 251 yX9_least, Cond.instanceMethod yX9_least, Cond.selects RX9 yX9_least yX9_least, Cond.code yX9_least cX9_least 3 (some .int), Cond.methodLink RX9 296 yX9_isCentred]
def wsX9_top_r3 : List Cond := [Cond.instanceMethod yX9_isCentred, Cond.selects RX9 yX9_isCentred yX9_isCentred, Cond.code yX9_isCentred cX9_isCentred 6 (some .boolean), Cond.methodLink RX9 276 yX9_centre, Cond.instanceMethod yX9_centre, Cond.selects RX9 yX9_centre yX9_centre, Cond.code yX9_centre cX9_centre 5 (some .int), Cond.fieldLink RX9 16 "ScaleGroupsModel" "w" "[I", Cond.fieldLink RX9 7 "ScaleGroupsModel" "x" "[I", Cond.fieldLink RX9 13 "ScaleGroupsModel" "y" "[I", Cond.methodLink RX9 215 yX9_weightOf, Cond.instanceMethod yX9_weightOf, Cond.selects RX9 yX9_weightOf yX9_weightOf, Cond.code yX9_weightOf cX9_weightOf 4 (some .int), Cond.methodLink RX9 292 yX9_isWithin, Cond.instanceMethod yX9_isWithin, Cond.selects RX9 yX9_isWithin yX9_isWithin, Cond.code yX9_isWithin cX9_isWithin 7 (some .boolean), Cond.methodLink RX9 266 yX9_numberOf, Cond.instanceMethod yX9_numberOf, Cond.selects RX9 yX9_numberOf yX9_numberOf, Cond.code yX9_numberOf cX9_numberOf 4 (some .int)]
def wsX9_top : List Cond := .code yX9_top cX9_top 12 (some .int) :: ((wsX9_top_r1 ++ (wsX9_top_r2 ++ wsX9_top_r3)) ++ wsX90)
def wsX9_tileSet : List Cond := .code yX9_tileSet cX9_tileSet 5 (some .int) :: ([.methodLink RX9 242 yX9_radius, .instanceMethod yX9_radius, .selects RX9 yX9_radius yX9_radius, .initialized RX9, .code yX9_radius cX9_radius 2 (some .int), .methodLink RX9 306 yX9_pointsIn, .instanceMethod yX9_pointsIn, .selects RX9 yX9_pointsIn yX9_pointsIn, .code yX9_pointsIn cX9_pointsIn 7 (some .int), .fieldLink RX9 98 "ScaleGroupsModel" "n" "I", .fieldLink RX9 7 "ScaleGroupsModel" "x" "[I", .fieldLink RX9 13 "ScaleGroupsModel" "y" "[I", .methodLink RX9 292 yX9_isWithin, .instanceMethod yX9_isWithin, .selects RX9 yX9_isWithin yX9_isWithin, .code yX9_isWithin cX9_isWithin 7 (some .boolean)] ++ wsX90)
def wsX9_filled : List Cond := .code yX9_filled cX9_filled 8 (some .int) :: ([.fieldLink RX9 95 "ScaleGroupsModel" "told" "I", .fieldLink RX9 98 "ScaleGroupsModel" "n" "I", .fieldLink RX9 13 "ScaleGroupsModel" "y" "[I", .fieldLink RX9 7 "ScaleGroupsModel" "x" "[I", .methodLink RX9 257 yX9_isZoom, .instanceMethod yX9_isZoom, .selects RX9 yX9_isZoom yX9_isZoom, .initialized RX9, .code yX9_isZoom cX9_isZoom 2 (some .boolean), .constantLong RX9 105 (10), .methodLink RX9 101 yX9_isIn, .instanceMethod yX9_isIn, .selects RX9 yX9_isIn yX9_isIn, .code yX9_isIn cX9_isIn 7 (some .boolean), .methodLink RX9 242 yX9_radius, .instanceMethod yX9_radius, .selects RX9 yX9_radius yX9_radius, .code yX9_radius cX9_radius 2 (some .int)] ++ wsX90)
def wsX9_densest_r1 : List Cond := [Cond.fieldLink RX9 95 "ScaleGroupsModel" "told" "I", Cond.fieldLink RX9 98 "ScaleGroupsModel" "n" "I", Cond.constantLong RX9 300 (3), Cond.fieldLink RX9 7 "ScaleGroupsModel" "x" "[I", Cond.fieldLink RX9 13 "ScaleGroupsModel" "y" "[I", Cond.methodLink RX9 257 yX9_isZoom, Cond.instanceMethod yX9_isZoom, Cond.selects RX9 yX9_isZoom yX9_isZoom, Cond.initialized RX9, Cond.code yX9_isZoom cX9_isZoom 2 (some .boolean), Cond.constantLong RX9 105 (10), Cond.methodLink RX9 101 yX9_isIn, Cond.instanceMethod yX9_isIn, Cond.selects RX9 yX9_isIn yX9_isIn, Cond.code yX9_isIn cX9_isIn 7 (some .boolean), Cond.methodLink RX9 242 yX9_radius, Cond.instanceMethod yX9_radius, Cond.selects RX9 yX9_radius yX9_radius, Cond.code yX9_radius cX9_radius 2 (some .int), Cond.methodLink RX9 306 yX9_pointsIn, Cond.instanceMethod yX9_pointsIn, Cond.selects RX9 yX9_pointsIn yX9_pointsIn, Cond.code yX9_pointsIn cX9_pointsIn 7 (some .int), Cond.methodLink RX9 292 yX9_isWithin]
def wsX9_densest_r2 : List Cond := [Cond.instanceMethod yX9_isWithin, Cond.selects RX9 yX9_isWithin yX9_isWithin, Cond.code yX9_isWithin cX9_isWithin 7 (some .boolean), Cond.methodLink RX9 215 yX9_weightOf, Cond.instanceMethod yX9_weightOf, Cond.selects RX9 yX9_weightOf yX9_weightOf, Cond.code yX9_weightOf cX9_weightOf 4 (some .int), Cond.fieldLink RX9 16 "ScaleGroupsModel" "w" "[I", Cond.methodLink RX9 123 yX9_has, Cond.instanceMethod yX9_has, Cond.selects RX9 yX9_has yX9_has, Cond.code yX9_has cX9_has 3 (some .boolean), Cond.methodLink RX9 224 yX9_bits, Cond.instanceMethod yX9_bits, Cond.selects RX9 yX9_bits yX9_bits, Cond.code yX9_bits cX9_bits 4 (some .int)]
def wsX9_densest : List Cond := .code yX9_densest cX9_densest 10 (some .int) :: ((wsX9_densest_r1 ++ wsX9_densest_r2) ++ wsX90)
def wsX9_tiles : List Cond := .code yX9_tiles cX9_tiles 8 (some .int) :: ([.methodLink RX9 310 yX9_tileSet, .instanceMethod yX9_tileSet, .selects RX9 yX9_tileSet yX9_tileSet, .initialized RX9, .code yX9_tileSet cX9_tileSet 5 (some .int), .methodLink RX9 242 yX9_radius, .instanceMethod yX9_radius, .selects RX9 yX9_radius yX9_radius, .code yX9_radius cX9_radius 2 (some .int), .methodLink RX9 306 yX9_pointsIn, .instanceMethod yX9_pointsIn, .selects RX9 yX9_pointsIn yX9_pointsIn, .code yX9_pointsIn cX9_pointsIn 7 (some .int), .fieldLink RX9 98 "ScaleGroupsModel" "n" "I", .fieldLink RX9 7 "ScaleGroupsModel" "x" "[I", .fieldLink RX9 13 "ScaleGroupsModel" "y" "[I", .methodLink RX9 292 yX9_isWithin, .instanceMethod yX9_isWithin, .selects RX9 yX9_isWithin yX9_isWithin, .code yX9_isWithin cX9_isWithin 7 (some .boolean), .methodLink RX9 313 yX9_tiles, .instanceMethod yX9_tiles, .selects RX9 yX9_tiles yX9_tiles] ++ wsX90)
def wsX9_cover_r1 : List Cond := [Cond.fieldLink RX9 95 "ScaleGroupsModel" "told" "I", Cond.methodLink RX9 269 yX9_groupSet, Cond.instanceMethod yX9_groupSet, Cond.selects RX9 yX9_groupSet yX9_groupSet, Cond.initialized RX9, Cond.code yX9_groupSet cX9_groupSet 5 (some .int), Cond.fieldLink RX9 98 "ScaleGroupsModel" "n" "I", Cond.fieldLink RX9 68 "ScaleGroupsModel" "partOf" "[I", Cond.methodLink RX9 257 yX9_isZoom, Cond.instanceMethod yX9_isZoom, Cond.selects RX9 yX9_isZoom yX9_isZoom, Cond.code yX9_isZoom cX9_isZoom 2 (some .boolean), Cond.constantLong RX9 105 (10), Cond.methodLink RX9 101 yX9_isIn, Cond.instanceMethod yX9_isIn, Cond.selects RX9 yX9_isIn yX9_isIn, Cond.code yX9_isIn cX9_isIn 7 (some .boolean), Cond.methodLink RX9 260 yX9_laysZoom, Cond.instanceMethod yX9_laysZoom, Cond.selects RX9 yX9_laysZoom yX9_laysZoom, Cond.code yX9_laysZoom cX9_laysZoom 2 none, Cond.methodLink RX9 245 yX9_joinsOf, Cond.instanceMethod yX9_joinsOf, Cond.selects RX9 yX9_joinsOf yX9_joinsOf]
def wsX9_cover_r2 : List Cond := [Cond.code yX9_joinsOf cX9_joinsOf 3 (some .int), Cond.fieldLink RX9 29 "ScaleGroupsModel" "wide" "[I", Cond.methodLink RX9 119 yX9_joins, Cond.instanceMethod yX9_joins, Cond.selects RX9 yX9_joins yX9_joins, Cond.code yX9_joins cX9_joins 1 (some .int), Cond.methodLink RX9 242 yX9_radius, Cond.instanceMethod yX9_radius, Cond.selects RX9 yX9_radius yX9_radius, Cond.code yX9_radius cX9_radius 2 (some .int), Cond.methodLink RX9 248 yX9_laysParts, Cond.instanceMethod yX9_laysParts, Cond.selects RX9 yX9_laysParts yX9_laysParts, Cond.code yX9_laysParts cX9_laysParts 4 none, Cond.fieldLink RX9 32 "ScaleGroupsModel" "madeSet" "[I", Cond.methodLink RX9 123 yX9_has, Cond.instanceMethod yX9_has, Cond.selects RX9 yX9_has yX9_has, Cond.code yX9_has cX9_has 3 (some .boolean), Cond.methodLink RX9 254 yX9_isFirst, Cond.instanceMethod yX9_isFirst, Cond.selects RX9 yX9_isFirst yX9_isFirst, Cond.code yX9_isFirst cX9_isFirst 2 (some .boolean), Cond.methodLink RX9 251 yX9_least]
def wsX9_cover_r3 : List Cond := [Cond.instanceMethod yX9_least, Cond.selects RX9 yX9_least yX9_least, Cond.code yX9_least cX9_least 3 (some .int), Cond.methodLink RX9 313 yX9_tiles, Cond.instanceMethod yX9_tiles, Cond.selects RX9 yX9_tiles yX9_tiles, Cond.code yX9_tiles cX9_tiles 8 (some .int), Cond.methodLink RX9 310 yX9_tileSet, Cond.instanceMethod yX9_tileSet, Cond.selects RX9 yX9_tileSet yX9_tileSet, Cond.code yX9_tileSet cX9_tileSet 5 (some .int), Cond.methodLink RX9 306 yX9_pointsIn, Cond.instanceMethod yX9_pointsIn, Cond.selects RX9 yX9_pointsIn yX9_pointsIn, Cond.code yX9_pointsIn cX9_pointsIn 7 (some .int), Cond.fieldLink RX9 7 "ScaleGroupsModel" "x" "[I", Cond.fieldLink RX9 13 "ScaleGroupsModel" "y" "[I", Cond.methodLink RX9 292 yX9_isWithin, Cond.instanceMethod yX9_isWithin, Cond.selects RX9 yX9_isWithin yX9_isWithin, Cond.code yX9_isWithin cX9_isWithin 7 (some .boolean)]
def wsX9_cover : List Cond := .code yX9_cover cX9_cover 4 (some .int) :: ((wsX9_cover_r1 ++ (wsX9_cover_r2 ++ wsX9_cover_r3)) ++ wsX90)
def wsX9_tile_r1 : List Cond := [Cond.fieldLink RX9 95 "ScaleGroupsModel" "told" "I", Cond.constantLong RX9 300 (3), Cond.methodLink RX9 257 yX9_isZoom, Cond.instanceMethod yX9_isZoom, Cond.selects RX9 yX9_isZoom yX9_isZoom, Cond.initialized RX9, Cond.code yX9_isZoom cX9_isZoom 2 (some .boolean), Cond.constantLong RX9 105 (10), Cond.methodLink RX9 101 yX9_isIn, Cond.instanceMethod yX9_isIn, Cond.selects RX9 yX9_isIn yX9_isIn, Cond.code yX9_isIn cX9_isIn 7 (some .boolean), Cond.methodLink RX9 310 yX9_tileSet, Cond.instanceMethod yX9_tileSet, Cond.selects RX9 yX9_tileSet yX9_tileSet, Cond.code yX9_tileSet cX9_tileSet 5 (some .int), Cond.methodLink RX9 242 yX9_radius, Cond.instanceMethod yX9_radius, Cond.selects RX9 yX9_radius yX9_radius, Cond.code yX9_radius cX9_radius 2 (some .int), Cond.methodLink RX9 306 yX9_pointsIn, Cond.instanceMethod yX9_pointsIn, Cond.selects RX9 yX9_pointsIn yX9_pointsIn, Cond.code yX9_pointsIn cX9_pointsIn 7 (some .int)]
def wsX9_tile_r2 : List Cond := [Cond.fieldLink RX9 98 "ScaleGroupsModel" "n" "I", Cond.fieldLink RX9 7 "ScaleGroupsModel" "x" "[I", Cond.fieldLink RX9 13 "ScaleGroupsModel" "y" "[I", Cond.methodLink RX9 292 yX9_isWithin, Cond.instanceMethod yX9_isWithin, Cond.selects RX9 yX9_isWithin yX9_isWithin, Cond.code yX9_isWithin cX9_isWithin 7 (some .boolean), Cond.methodLink RX9 224 yX9_bits, Cond.instanceMethod yX9_bits, Cond.selects RX9 yX9_bits yX9_bits, Cond.code yX9_bits cX9_bits 4 (some .int), Cond.methodLink RX9 123 yX9_has, Cond.instanceMethod yX9_has, Cond.selects RX9 yX9_has yX9_has, Cond.code yX9_has cX9_has 3 (some .boolean), Cond.methodLink RX9 215 yX9_weightOf, Cond.instanceMethod yX9_weightOf, Cond.selects RX9 yX9_weightOf yX9_weightOf, Cond.code yX9_weightOf cX9_weightOf 4 (some .int), Cond.fieldLink RX9 16 "ScaleGroupsModel" "w" "[I", Cond.methodLink RX9 260 yX9_laysZoom, Cond.instanceMethod yX9_laysZoom, Cond.selects RX9 yX9_laysZoom yX9_laysZoom, Cond.code yX9_laysZoom cX9_laysZoom 2 none]
def wsX9_tile_r3 : List Cond := [Cond.methodLink RX9 245 yX9_joinsOf, Cond.instanceMethod yX9_joinsOf, Cond.selects RX9 yX9_joinsOf yX9_joinsOf, Cond.code yX9_joinsOf cX9_joinsOf 3 (some .int), Cond.fieldLink RX9 29 "ScaleGroupsModel" "wide" "[I", Cond.methodLink RX9 119 yX9_joins, Cond.instanceMethod yX9_joins, Cond.selects RX9 yX9_joins yX9_joins, Cond.code yX9_joins cX9_joins 1 (some .int), Cond.methodLink RX9 248 yX9_laysParts, Cond.instanceMethod yX9_laysParts, Cond.selects RX9 yX9_laysParts yX9_laysParts, Cond.code yX9_laysParts cX9_laysParts 4 none, Cond.fieldLink RX9 68 "ScaleGroupsModel" "partOf" "[I", Cond.fieldLink RX9 32 "ScaleGroupsModel" "madeSet" "[I", Cond.methodLink RX9 302 yX9_centredIn, Cond.instanceMethod yX9_centredIn, Cond.selects RX9 yX9_centredIn yX9_centredIn, Cond.code yX9_centredIn cX9_centredIn 8 (some .int), Cond.methodLink RX9 254 yX9_isFirst, Cond.instanceMethod yX9_isFirst, Cond.selects RX9 yX9_isFirst yX9_isFirst, Cond.code yX9_isFirst cX9_isFirst 2 (some .boolean), Cond.methodLink RX9 251 yX9_least]
def wsX9_tile_r4 : List Cond := [Cond.instanceMethod yX9_least, Cond.selects RX9 yX9_least yX9_least, Cond.code yX9_least cX9_least 3 (some .int), Cond.methodLink RX9 296 yX9_isCentred, Cond.instanceMethod yX9_isCentred, Cond.selects RX9 yX9_isCentred yX9_isCentred, Cond.code yX9_isCentred cX9_isCentred 6 (some .boolean), Cond.methodLink RX9 276 yX9_centre, Cond.instanceMethod yX9_centre, Cond.selects RX9 yX9_centre yX9_centre, Cond.code yX9_centre cX9_centre 5 (some .int)]
def wsX9_tile : List Cond := .code yX9_tile cX9_tile 9 (some .int) :: ((wsX9_tile_r1 ++ (wsX9_tile_r2 ++ (wsX9_tile_r3 ++ wsX9_tile_r4))) ++ wsX90)
def wsX9_turn : List Cond := .code yX9_turn cX9_turn 4 (some .int) :: ([.fieldLink RX9 7 "ScaleGroupsModel" "x" "[I", .fieldLink RX9 13 "ScaleGroupsModel" "y" "[I"] ++ wsX90)
def wsX9_nextCorner : List Cond := .code yX9_nextCorner cX9_nextCorner 6 (some .int) :: ([.fieldLink RX9 98 "ScaleGroupsModel" "n" "I", .methodLink RX9 123 yX9_has, .instanceMethod yX9_has, .selects RX9 yX9_has yX9_has, .initialized RX9, .code yX9_has cX9_has 3 (some .boolean), .methodLink RX9 316 yX9_turn, .instanceMethod yX9_turn, .selects RX9 yX9_turn yX9_turn, .code yX9_turn cX9_turn 4 (some .int), .fieldLink RX9 7 "ScaleGroupsModel" "x" "[I", .fieldLink RX9 13 "ScaleGroupsModel" "y" "[I", .methodLink RX9 107 yX9_apart, .instanceMethod yX9_apart, .selects RX9 yX9_apart yX9_apart, .code yX9_apart cX9_apart 3 (some .int)] ++ wsX90)
def wsX9_laysOutline_r1 : List Cond := [Cond.fieldLink RX9 71 "ScaleGroupsModel" "corner" "[I", Cond.fieldLink RX9 319 "ScaleGroupsModel" "corners" "I", Cond.methodLink RX9 251 yX9_least, Cond.instanceMethod yX9_least, Cond.selects RX9 yX9_least yX9_least, Cond.initialized RX9, Cond.code yX9_least cX9_least 3 (some .int), Cond.methodLink RX9 123 yX9_has, Cond.instanceMethod yX9_has, Cond.selects RX9 yX9_has yX9_has, Cond.code yX9_has cX9_has 3 (some .boolean), Cond.methodLink RX9 224 yX9_bits, Cond.instanceMethod yX9_bits, Cond.selects RX9 yX9_bits yX9_bits, Cond.code yX9_bits cX9_bits 4 (some .int), Cond.methodLink RX9 322 yX9_nextCorner, Cond.instanceMethod yX9_nextCorner, Cond.selects RX9 yX9_nextCorner yX9_nextCorner, Cond.code yX9_nextCorner cX9_nextCorner 6 (some .int), Cond.fieldLink RX9 98 "ScaleGroupsModel" "n" "I", Cond.methodLink RX9 316 yX9_turn, Cond.instanceMethod yX9_turn, Cond.selects RX9 yX9_turn yX9_turn, Cond.code yX9_turn cX9_turn 4 (some .int)]
def wsX9_laysOutline_r2 : List Cond := [Cond.fieldLink RX9 7 "ScaleGroupsModel" "x" "[I", Cond.fieldLink RX9 13 "ScaleGroupsModel" "y" "[I", Cond.methodLink RX9 107 yX9_apart, Cond.instanceMethod yX9_apart, Cond.selects RX9 yX9_apart yX9_apart, Cond.code yX9_apart cX9_apart 3 (some .int)]
def wsX9_laysOutline : List Cond := .code yX9_laysOutline cX9_laysOutline 3 none :: ((wsX9_laysOutline_r1 ++ wsX9_laysOutline_r2) ++ wsX90)
def wsX9_outline_r1 : List Cond := [Cond.fieldLink RX9 95 "ScaleGroupsModel" "told" "I", Cond.fieldLink RX9 319 "ScaleGroupsModel" "corners" "I", Cond.fieldLink RX9 71 "ScaleGroupsModel" "corner" "[I", Cond.methodLink RX9 269 yX9_groupSet, Cond.instanceMethod yX9_groupSet, Cond.selects RX9 yX9_groupSet yX9_groupSet, Cond.initialized RX9, Cond.code yX9_groupSet cX9_groupSet 5 (some .int), Cond.fieldLink RX9 98 "ScaleGroupsModel" "n" "I", Cond.fieldLink RX9 68 "ScaleGroupsModel" "partOf" "[I", Cond.methodLink RX9 257 yX9_isZoom, Cond.instanceMethod yX9_isZoom, Cond.selects RX9 yX9_isZoom yX9_isZoom, Cond.code yX9_isZoom cX9_isZoom 2 (some .boolean), Cond.constantLong RX9 105 (10), Cond.methodLink RX9 101 yX9_isIn, Cond.instanceMethod yX9_isIn, Cond.selects RX9 yX9_isIn yX9_isIn, Cond.code yX9_isIn cX9_isIn 7 (some .boolean), Cond.methodLink RX9 260 yX9_laysZoom, Cond.instanceMethod yX9_laysZoom, Cond.selects RX9 yX9_laysZoom yX9_laysZoom, Cond.code yX9_laysZoom cX9_laysZoom 2 none, Cond.methodLink RX9 245 yX9_joinsOf]
def wsX9_outline_r2 : List Cond := [Cond.instanceMethod yX9_joinsOf, Cond.selects RX9 yX9_joinsOf yX9_joinsOf, Cond.code yX9_joinsOf cX9_joinsOf 3 (some .int), Cond.fieldLink RX9 29 "ScaleGroupsModel" "wide" "[I", Cond.methodLink RX9 119 yX9_joins, Cond.instanceMethod yX9_joins, Cond.selects RX9 yX9_joins yX9_joins, Cond.code yX9_joins cX9_joins 1 (some .int), Cond.methodLink RX9 242 yX9_radius, Cond.instanceMethod yX9_radius, Cond.selects RX9 yX9_radius yX9_radius, Cond.code yX9_radius cX9_radius 2 (some .int), Cond.methodLink RX9 248 yX9_laysParts, Cond.instanceMethod yX9_laysParts, Cond.selects RX9 yX9_laysParts yX9_laysParts, Cond.code yX9_laysParts cX9_laysParts 4 none, Cond.fieldLink RX9 32 "ScaleGroupsModel" "madeSet" "[I", Cond.methodLink RX9 123 yX9_has, Cond.instanceMethod yX9_has, Cond.selects RX9 yX9_has yX9_has, Cond.code yX9_has cX9_has 3 (some .boolean), Cond.methodLink RX9 254 yX9_isFirst, Cond.instanceMethod yX9_isFirst, Cond.selects RX9 yX9_isFirst yX9_isFirst]
def wsX9_outline_r3 : List Cond := [Cond.code yX9_isFirst cX9_isFirst 2 (some .boolean), Cond.methodLink RX9 251 yX9_least, Cond.instanceMethod yX9_least, Cond.selects RX9 yX9_least yX9_least, Cond.code yX9_least cX9_least 3 (some .int), Cond.methodLink RX9 325 yX9_laysOutline, Cond.instanceMethod yX9_laysOutline, Cond.selects RX9 yX9_laysOutline yX9_laysOutline, Cond.code yX9_laysOutline cX9_laysOutline 3 none, Cond.methodLink RX9 224 yX9_bits, Cond.instanceMethod yX9_bits, Cond.selects RX9 yX9_bits yX9_bits, Cond.code yX9_bits cX9_bits 4 (some .int), Cond.methodLink RX9 322 yX9_nextCorner, Cond.instanceMethod yX9_nextCorner, Cond.selects RX9 yX9_nextCorner yX9_nextCorner, Cond.code yX9_nextCorner cX9_nextCorner 6 (some .int), Cond.methodLink RX9 316 yX9_turn, Cond.instanceMethod yX9_turn, Cond.selects RX9 yX9_turn yX9_turn, Cond.code yX9_turn cX9_turn 4 (some .int), Cond.fieldLink RX9 7 "ScaleGroupsModel" "x" "[I", Cond.fieldLink RX9 13 "ScaleGroupsModel" "y" "[I", Cond.methodLink RX9 107 yX9_apart]
def wsX9_outline_r4 : List Cond := [Cond.instanceMethod yX9_apart, Cond.selects RX9 yX9_apart yX9_apart, Cond.code yX9_apart cX9_apart 3 (some .int)]
def wsX9_outline : List Cond := .code yX9_outline cX9_outline 5 (some .int) :: ((wsX9_outline_r1 ++ (wsX9_outline_r2 ++ (wsX9_outline_r3 ++ wsX9_outline_r4))) ++ wsX90)
def wsX9_area_r1 : List Cond := [Cond.fieldLink RX9 95 "ScaleGroupsModel" "told" "I", Cond.fieldLink RX9 319 "ScaleGroupsModel" "corners" "I", Cond.fieldLink RX9 71 "ScaleGroupsModel" "corner" "[I", Cond.methodLink RX9 269 yX9_groupSet, Cond.instanceMethod yX9_groupSet, Cond.selects RX9 yX9_groupSet yX9_groupSet, Cond.initialized RX9, Cond.code yX9_groupSet cX9_groupSet 5 (some .int), Cond.fieldLink RX9 98 "ScaleGroupsModel" "n" "I", Cond.fieldLink RX9 68 "ScaleGroupsModel" "partOf" "[I", Cond.methodLink RX9 257 yX9_isZoom, Cond.instanceMethod yX9_isZoom, Cond.selects RX9 yX9_isZoom yX9_isZoom, Cond.code yX9_isZoom cX9_isZoom 2 (some .boolean), Cond.constantLong RX9 105 (10), Cond.methodLink RX9 101 yX9_isIn, Cond.instanceMethod yX9_isIn, Cond.selects RX9 yX9_isIn yX9_isIn, Cond.code yX9_isIn cX9_isIn 7 (some .boolean), Cond.methodLink RX9 260 yX9_laysZoom, Cond.instanceMethod yX9_laysZoom, Cond.selects RX9 yX9_laysZoom yX9_laysZoom, Cond.code yX9_laysZoom cX9_laysZoom 2 none, Cond.methodLink RX9 245 yX9_joinsOf]
def wsX9_area_r2 : List Cond := [Cond.instanceMethod yX9_joinsOf, Cond.selects RX9 yX9_joinsOf yX9_joinsOf, Cond.code yX9_joinsOf cX9_joinsOf 3 (some .int), Cond.fieldLink RX9 29 "ScaleGroupsModel" "wide" "[I", Cond.methodLink RX9 119 yX9_joins, Cond.instanceMethod yX9_joins, Cond.selects RX9 yX9_joins yX9_joins, Cond.code yX9_joins cX9_joins 1 (some .int), Cond.methodLink RX9 242 yX9_radius, Cond.instanceMethod yX9_radius, Cond.selects RX9 yX9_radius yX9_radius, Cond.code yX9_radius cX9_radius 2 (some .int), Cond.methodLink RX9 248 yX9_laysParts, Cond.instanceMethod yX9_laysParts, Cond.selects RX9 yX9_laysParts yX9_laysParts, Cond.code yX9_laysParts cX9_laysParts 4 none, Cond.fieldLink RX9 32 "ScaleGroupsModel" "madeSet" "[I", Cond.methodLink RX9 123 yX9_has, Cond.instanceMethod yX9_has, Cond.selects RX9 yX9_has yX9_has, Cond.code yX9_has cX9_has 3 (some .boolean), Cond.methodLink RX9 254 yX9_isFirst, Cond.instanceMethod yX9_isFirst, Cond.selects RX9 yX9_isFirst yX9_isFirst]
def wsX9_area_r3 : List Cond := [Cond.code yX9_isFirst cX9_isFirst 2 (some .boolean), Cond.methodLink RX9 251 yX9_least, Cond.instanceMethod yX9_least, Cond.selects RX9 yX9_least yX9_least, Cond.code yX9_least cX9_least 3 (some .int), Cond.methodLink RX9 325 yX9_laysOutline, Cond.instanceMethod yX9_laysOutline, Cond.selects RX9 yX9_laysOutline yX9_laysOutline, Cond.code yX9_laysOutline cX9_laysOutline 3 none, Cond.methodLink RX9 224 yX9_bits, Cond.instanceMethod yX9_bits, Cond.selects RX9 yX9_bits yX9_bits, Cond.code yX9_bits cX9_bits 4 (some .int), Cond.methodLink RX9 322 yX9_nextCorner, Cond.instanceMethod yX9_nextCorner, Cond.selects RX9 yX9_nextCorner yX9_nextCorner, Cond.code yX9_nextCorner cX9_nextCorner 6 (some .int), Cond.methodLink RX9 316 yX9_turn, Cond.instanceMethod yX9_turn, Cond.selects RX9 yX9_turn yX9_turn, Cond.code yX9_turn cX9_turn 4 (some .int), Cond.fieldLink RX9 7 "ScaleGroupsModel" "x" "[I", Cond.fieldLink RX9 13 "ScaleGroupsModel" "y" "[I", Cond.methodLink RX9 107 yX9_apart]
def wsX9_area_r4 : List Cond := [Cond.instanceMethod yX9_apart, Cond.selects RX9 yX9_apart yX9_apart, Cond.code yX9_apart cX9_apart 3 (some .int)]
def wsX9_area : List Cond := .code yX9_area cX9_area 6 (some .int) :: ((wsX9_area_r1 ++ (wsX9_area_r2 ++ (wsX9_area_r3 ++ wsX9_area_r4))) ++ wsX90)
def wsX9_farther : List Cond := .code yX9_farther cX9_farther 3 (some .int) :: ([.methodLink RX9 328 Lib.Math.abs.name, .static Lib.Math.abs.name, .initialized "java/lang/Math", .code Lib.Math.abs.name Lib.Math.abs.code 1 (some .int), .methodLink RX9 116 Lib.Math.max.name, .static Lib.Math.max.name, .code Lib.Math.max.name Lib.Math.max.code 2 (some .int), .methodLink RX9 276 yX9_centre, .instanceMethod yX9_centre, .selects RX9 yX9_centre yX9_centre, .initialized RX9, .code yX9_centre cX9_centre 5 (some .int), .fieldLink RX9 98 "ScaleGroupsModel" "n" "I", .fieldLink RX9 16 "ScaleGroupsModel" "w" "[I", .fieldLink RX9 7 "ScaleGroupsModel" "x" "[I", .fieldLink RX9 13 "ScaleGroupsModel" "y" "[I", .methodLink RX9 123 yX9_has, .instanceMethod yX9_has, .selects RX9 yX9_has yX9_has, .code yX9_has cX9_has 3 (some .boolean), .methodLink RX9 215 yX9_weightOf, .instanceMethod yX9_weightOf, .selects RX9 yX9_weightOf yX9_weightOf, .code yX9_weightOf cX9_weightOf 4 (some .int)] ++ wsX90)
def wsX9_drift_r1 : List Cond := [Cond.fieldLink RX9 95 "ScaleGroupsModel" "told" "I", Cond.constantLong RX9 331 (9), Cond.fieldLink RX9 98 "ScaleGroupsModel" "n" "I", Cond.fieldLink RX9 74 "ScaleGroupsModel" "ahead" "[I", Cond.fieldLink RX9 68 "ScaleGroupsModel" "partOf" "[I", Cond.methodLink RX9 101 yX9_isIn, Cond.instanceMethod yX9_isIn, Cond.selects RX9 yX9_isIn yX9_isIn, Cond.initialized RX9, Cond.code yX9_isIn cX9_isIn 7 (some .boolean), Cond.methodLink RX9 260 yX9_laysZoom, Cond.instanceMethod yX9_laysZoom, Cond.selects RX9 yX9_laysZoom yX9_laysZoom, Cond.code yX9_laysZoom cX9_laysZoom 2 none, Cond.methodLink RX9 245 yX9_joinsOf, Cond.instanceMethod yX9_joinsOf, Cond.selects RX9 yX9_joinsOf yX9_joinsOf, Cond.code yX9_joinsOf cX9_joinsOf 3 (some .int), Cond.fieldLink RX9 29 "ScaleGroupsModel" "wide" "[I", Cond.methodLink RX9 119 yX9_joins, Cond.instanceMethod yX9_joins, Cond.selects RX9 yX9_joins yX9_joins, Cond.code yX9_joins cX9_joins 1 (some .int), Cond.methodLink RX9 242 yX9_radius]
def wsX9_drift_r2 : List Cond := [Cond.instanceMethod yX9_radius, Cond.selects RX9 yX9_radius yX9_radius, Cond.code yX9_radius cX9_radius 2 (some .int), Cond.methodLink RX9 248 yX9_laysParts, Cond.instanceMethod yX9_laysParts, Cond.selects RX9 yX9_laysParts yX9_laysParts, Cond.code yX9_laysParts cX9_laysParts 4 none, Cond.fieldLink RX9 32 "ScaleGroupsModel" "madeSet" "[I", Cond.methodLink RX9 123 yX9_has, Cond.instanceMethod yX9_has, Cond.selects RX9 yX9_has yX9_has, Cond.code yX9_has cX9_has 3 (some .boolean), Cond.methodLink RX9 254 yX9_isFirst, Cond.instanceMethod yX9_isFirst, Cond.selects RX9 yX9_isFirst yX9_isFirst, Cond.code yX9_isFirst cX9_isFirst 2 (some .boolean), Cond.methodLink RX9 251 yX9_least, Cond.instanceMethod yX9_least, Cond.selects RX9 yX9_least yX9_least, Cond.code yX9_least cX9_least 3 (some .int), Cond.methodLink RX9 333 yX9_farther, Cond.instanceMethod yX9_farther, Cond.selects RX9 yX9_farther yX9_farther, Cond.code yX9_farther cX9_farther 3 (some .int)]
def wsX9_drift_r3 : List Cond := [Cond.methodLink RX9 328 Lib.Math.abs.name, Cond.static Lib.Math.abs.name, Cond.initialized "java/lang/Math", Cond.code Lib.Math.abs.name Lib.Math.abs.code 1 (some .int), Cond.methodLink RX9 116 Lib.Math.max.name, Cond.static Lib.Math.max.name, Cond.code Lib.Math.max.name Lib.Math.max.code 2 (some .int), Cond.methodLink RX9 276 yX9_centre, Cond.instanceMethod yX9_centre, Cond.selects RX9 yX9_centre yX9_centre, Cond.code yX9_centre cX9_centre 5 (some .int), Cond.fieldLink RX9 16 "ScaleGroupsModel" "w" "[I", Cond.fieldLink RX9 7 "ScaleGroupsModel" "x" "[I", Cond.fieldLink RX9 13 "ScaleGroupsModel" "y" "[I", Cond.methodLink RX9 215 yX9_weightOf, Cond.instanceMethod yX9_weightOf, Cond.selects RX9 yX9_weightOf yX9_weightOf, Cond.code yX9_weightOf cX9_weightOf 4 (some .int)]
def wsX9_drift : List Cond := .code yX9_drift cX9_drift 4 (some .int) :: ((wsX9_drift_r1 ++ (wsX9_drift_r2 ++ wsX9_drift_r3)) ++ wsX90)
def wsX9_part_r1 : List Cond := [Cond.fieldLink RX9 95 "ScaleGroupsModel" "told" "I", Cond.fieldLink RX9 98 "ScaleGroupsModel" "n" "I", Cond.fieldLink RX9 68 "ScaleGroupsModel" "partOf" "[I", Cond.methodLink RX9 101 yX9_isIn, Cond.instanceMethod yX9_isIn, Cond.selects RX9 yX9_isIn yX9_isIn, Cond.initialized RX9, Cond.code yX9_isIn cX9_isIn 7 (some .boolean), Cond.methodLink RX9 182 yX9_isPoint, Cond.instanceMethod yX9_isPoint, Cond.selects RX9 yX9_isPoint yX9_isPoint, Cond.code yX9_isPoint cX9_isPoint 2 (some .boolean), Cond.methodLink RX9 248 yX9_laysParts, Cond.instanceMethod yX9_laysParts, Cond.selects RX9 yX9_laysParts yX9_laysParts, Cond.code yX9_laysParts cX9_laysParts 4 none, Cond.fieldLink RX9 32 "ScaleGroupsModel" "madeSet" "[I", Cond.methodLink RX9 123 yX9_has, Cond.instanceMethod yX9_has, Cond.selects RX9 yX9_has yX9_has, Cond.code yX9_has cX9_has 3 (some .boolean), Cond.methodLink RX9 251 yX9_least, Cond.instanceMethod yX9_least, Cond.selects RX9 yX9_least yX9_least]
def wsX9_part_r2 : List Cond := [Cond.code yX9_least cX9_least 3 (some .int)]
def wsX9_part : List Cond := .code yX9_part cX9_part 3 (some .int) :: ((wsX9_part_r1 ++ wsX9_part_r2) ++ wsX90)
def wsX9_clearest : List Cond := .code yX9_clearest cX9_clearest 5 (some .int) :: ([.fieldLink RX9 95 "ScaleGroupsModel" "told" "I", .fieldLink RX9 98 "ScaleGroupsModel" "n" "I", .fieldLink RX9 29 "ScaleGroupsModel" "wide" "[I", .methodLink RX9 218 yX9_root, .instanceMethod yX9_root, .selects RX9 yX9_root yX9_root, .initialized RX9, .code yX9_root cX9_root 3 (some .int)] ++ wsX90)
def wsX9_bestOf_r1 : List Cond := [Cond.fieldLink RX9 35 "ScaleGroupsModel" "oneSide" "[I", Cond.fieldLink RX9 38 "ScaleGroupsModel" "otherSide" "[I", Cond.methodLink RX9 116 Lib.Math.max.name, Cond.static Lib.Math.max.name, Cond.initialized "java/lang/Math", Cond.code Lib.Math.max.name Lib.Math.max.code 2 (some .int), Cond.methodLink RX9 227 yX9_lasts, Cond.instanceMethod yX9_lasts, Cond.selects RX9 yX9_lasts yX9_lasts, Cond.initialized RX9, Cond.code yX9_lasts cX9_lasts 4 (some .int), Cond.fieldLink RX9 32 "ScaleGroupsModel" "madeSet" "[I", Cond.fieldLink RX9 44 "ScaleGroupsModel" "abovePoint" "[I", Cond.fieldLink RX9 41 "ScaleGroupsModel" "aboveJoin" "[I", Cond.fieldLink RX9 29 "ScaleGroupsModel" "wide" "[I", Cond.methodLink RX9 215 yX9_weightOf, Cond.instanceMethod yX9_weightOf, Cond.selects RX9 yX9_weightOf yX9_weightOf, Cond.code yX9_weightOf cX9_weightOf 4 (some .int), Cond.fieldLink RX9 98 "ScaleGroupsModel" "n" "I", Cond.fieldLink RX9 16 "ScaleGroupsModel" "w" "[I", Cond.methodLink RX9 123 yX9_has, Cond.instanceMethod yX9_has, Cond.selects RX9 yX9_has yX9_has]
def wsX9_bestOf_r2 : List Cond := [Cond.code yX9_has cX9_has 3 (some .boolean), Cond.methodLink RX9 218 yX9_root, Cond.instanceMethod yX9_root, Cond.selects RX9 yX9_root yX9_root, Cond.code yX9_root cX9_root 3 (some .int), Cond.methodLink RX9 336 yX9_bestOf, Cond.instanceMethod yX9_bestOf, Cond.selects RX9 yX9_bestOf yX9_bestOf]
def wsX9_bestOf : List Cond := .code yX9_bestOf cX9_bestOf 3 (some .int) :: ((wsX9_bestOf_r1 ++ wsX9_bestOf_r2) ++ wsX90)
def wsX9_setOfNode : List Cond := .code yX9_setOfNode cX9_setOfNode 2 (some .int) :: ([.fieldLink RX9 32 "ScaleGroupsModel" "madeSet" "[I"] ++ wsX90)
def wsX9_takesBest_r1 : List Cond := [Cond.fieldLink RX9 35 "ScaleGroupsModel" "oneSide" "[I", Cond.fieldLink RX9 38 "ScaleGroupsModel" "otherSide" "[I", Cond.fieldLink RX9 342 "ScaleGroupsModel" "bestMany" "I", Cond.fieldLink RX9 77 "ScaleGroupsModel" "bestNode" "[I", Cond.methodLink RX9 227 yX9_lasts, Cond.instanceMethod yX9_lasts, Cond.selects RX9 yX9_lasts yX9_lasts, Cond.initialized RX9, Cond.code yX9_lasts cX9_lasts 4 (some .int), Cond.fieldLink RX9 32 "ScaleGroupsModel" "madeSet" "[I", Cond.fieldLink RX9 44 "ScaleGroupsModel" "abovePoint" "[I", Cond.fieldLink RX9 41 "ScaleGroupsModel" "aboveJoin" "[I", Cond.fieldLink RX9 29 "ScaleGroupsModel" "wide" "[I", Cond.methodLink RX9 215 yX9_weightOf, Cond.instanceMethod yX9_weightOf, Cond.selects RX9 yX9_weightOf yX9_weightOf, Cond.code yX9_weightOf cX9_weightOf 4 (some .int), Cond.fieldLink RX9 98 "ScaleGroupsModel" "n" "I", Cond.fieldLink RX9 16 "ScaleGroupsModel" "w" "[I", Cond.methodLink RX9 123 yX9_has, Cond.instanceMethod yX9_has, Cond.selects RX9 yX9_has yX9_has, Cond.code yX9_has cX9_has 3 (some .boolean), Cond.methodLink RX9 218 yX9_root]
def wsX9_takesBest_r2 : List Cond := [Cond.instanceMethod yX9_root, Cond.selects RX9 yX9_root yX9_root, Cond.code yX9_root cX9_root 3 (some .int), Cond.methodLink RX9 336 yX9_bestOf, Cond.instanceMethod yX9_bestOf, Cond.selects RX9 yX9_bestOf yX9_bestOf, Cond.code yX9_bestOf cX9_bestOf 3 (some .int), Cond.methodLink RX9 116 Lib.Math.max.name, Cond.static Lib.Math.max.name, Cond.initialized "java/lang/Math", Cond.code Lib.Math.max.name Lib.Math.max.code 2 (some .int), Cond.methodLink RX9 339 yX9_takesBest, Cond.instanceMethod yX9_takesBest, Cond.selects RX9 yX9_takesBest yX9_takesBest, Cond.methodLink RX9 345 yX9_setOfNode, Cond.instanceMethod yX9_setOfNode, Cond.selects RX9 yX9_setOfNode yX9_setOfNode, Cond.code yX9_setOfNode cX9_setOfNode 2 (some .int), Cond.methodLink RX9 251 yX9_least, Cond.instanceMethod yX9_least, Cond.selects RX9 yX9_least yX9_least, Cond.code yX9_least cX9_least 3 (some .int)]
def wsX9_takesBest : List Cond := .code yX9_takesBest cX9_takesBest 3 none :: ((wsX9_takesBest_r1 ++ wsX9_takesBest_r2) ++ wsX90)
def wsX9_best_r1 : List Cond := [Cond.fieldLink RX9 95 "ScaleGroupsModel" "told" "I", Cond.fieldLink RX9 342 "ScaleGroupsModel" "bestMany" "I", Cond.fieldLink RX9 98 "ScaleGroupsModel" "n" "I", Cond.constantLong RX9 105 (10), Cond.constantLong RX9 331 (9), Cond.fieldLink RX9 77 "ScaleGroupsModel" "bestNode" "[I", Cond.methodLink RX9 339 yX9_takesBest, Cond.instanceMethod yX9_takesBest, Cond.selects RX9 yX9_takesBest yX9_takesBest, Cond.initialized RX9, Cond.code yX9_takesBest cX9_takesBest 3 none, Cond.fieldLink RX9 35 "ScaleGroupsModel" "oneSide" "[I", Cond.fieldLink RX9 38 "ScaleGroupsModel" "otherSide" "[I", Cond.methodLink RX9 227 yX9_lasts, Cond.instanceMethod yX9_lasts, Cond.selects RX9 yX9_lasts yX9_lasts, Cond.code yX9_lasts cX9_lasts 4 (some .int), Cond.fieldLink RX9 32 "ScaleGroupsModel" "madeSet" "[I", Cond.fieldLink RX9 44 "ScaleGroupsModel" "abovePoint" "[I", Cond.fieldLink RX9 41 "ScaleGroupsModel" "aboveJoin" "[I", Cond.fieldLink RX9 29 "ScaleGroupsModel" "wide" "[I", Cond.methodLink RX9 215 yX9_weightOf, Cond.instanceMethod yX9_weightOf, Cond.selects RX9 yX9_weightOf yX9_weightOf]
def wsX9_best_r2 : List Cond := [Cond.code yX9_weightOf cX9_weightOf 4 (some .int), Cond.fieldLink RX9 16 "ScaleGroupsModel" "w" "[I", Cond.methodLink RX9 123 yX9_has, Cond.instanceMethod yX9_has, Cond.selects RX9 yX9_has yX9_has, Cond.code yX9_has cX9_has 3 (some .boolean), Cond.methodLink RX9 218 yX9_root, Cond.instanceMethod yX9_root, Cond.selects RX9 yX9_root yX9_root, Cond.code yX9_root cX9_root 3 (some .int), Cond.methodLink RX9 336 yX9_bestOf, Cond.instanceMethod yX9_bestOf, Cond.selects RX9 yX9_bestOf yX9_bestOf, Cond.code yX9_bestOf cX9_bestOf 3 (some .int), Cond.methodLink RX9 116 Lib.Math.max.name, Cond.static Lib.Math.max.name, Cond.initialized "java/lang/Math", Cond.code Lib.Math.max.name Lib.Math.max.code 2 (some .int), Cond.methodLink RX9 345 yX9_setOfNode, Cond.instanceMethod yX9_setOfNode, Cond.selects RX9 yX9_setOfNode yX9_setOfNode, Cond.code yX9_setOfNode cX9_setOfNode 2 (some .int), Cond.methodLink RX9 251 yX9_least, Cond.instanceMethod yX9_least]
def wsX9_best_r3 : List Cond := [Cond.selects RX9 yX9_least yX9_least, Cond.code yX9_least cX9_least 3 (some .int), Cond.methodLink RX9 101 yX9_isIn, Cond.instanceMethod yX9_isIn, Cond.selects RX9 yX9_isIn yX9_isIn, Cond.code yX9_isIn cX9_isIn 7 (some .boolean)]
def wsX9_best : List Cond := .code yX9_best cX9_best 3 (some .int) :: ((wsX9_best_r1 ++ (wsX9_best_r2 ++ wsX9_best_r3)) ++ wsX90)
def wsX9_laysLabels_r1 : List Cond := [Cond.fieldLink RX9 348 "ScaleGroupsModel" "rankedMany" "I", Cond.fieldLink RX9 98 "ScaleGroupsModel" "n" "I", Cond.fieldLink RX9 80 "ScaleGroupsModel" "ranked" "[I", Cond.fieldLink RX9 68 "ScaleGroupsModel" "partOf" "[I", Cond.fieldLink RX9 351 "ScaleGroupsModel" "shownMany" "I", Cond.fieldLink RX9 83 "ScaleGroupsModel" "shown" "[I", Cond.fieldLink RX9 19 "ScaleGroupsModel" "size" "I", Cond.methodLink RX9 260 yX9_laysZoom, Cond.instanceMethod yX9_laysZoom, Cond.selects RX9 yX9_laysZoom yX9_laysZoom, Cond.initialized RX9, Cond.code yX9_laysZoom cX9_laysZoom 2 none, Cond.methodLink RX9 245 yX9_joinsOf, Cond.instanceMethod yX9_joinsOf, Cond.selects RX9 yX9_joinsOf yX9_joinsOf, Cond.code yX9_joinsOf cX9_joinsOf 3 (some .int), Cond.fieldLink RX9 29 "ScaleGroupsModel" "wide" "[I", Cond.methodLink RX9 119 yX9_joins, Cond.instanceMethod yX9_joins, Cond.selects RX9 yX9_joins yX9_joins, Cond.code yX9_joins cX9_joins 1 (some .int), Cond.methodLink RX9 242 yX9_radius, Cond.instanceMethod yX9_radius, Cond.selects RX9 yX9_radius yX9_radius]
def wsX9_laysLabels_r2 : List Cond := [Cond.code yX9_radius cX9_radius 2 (some .int), Cond.methodLink RX9 248 yX9_laysParts, Cond.instanceMethod yX9_laysParts, Cond.selects RX9 yX9_laysParts yX9_laysParts, Cond.code yX9_laysParts cX9_laysParts 4 none, Cond.fieldLink RX9 32 "ScaleGroupsModel" "madeSet" "[I", Cond.methodLink RX9 123 yX9_has, Cond.instanceMethod yX9_has, Cond.selects RX9 yX9_has yX9_has, Cond.code yX9_has cX9_has 3 (some .boolean), Cond.methodLink RX9 254 yX9_isFirst, Cond.instanceMethod yX9_isFirst, Cond.selects RX9 yX9_isFirst yX9_isFirst, Cond.code yX9_isFirst cX9_isFirst 2 (some .boolean), Cond.methodLink RX9 251 yX9_least, Cond.instanceMethod yX9_least, Cond.selects RX9 yX9_least yX9_least, Cond.code yX9_least cX9_least 3 (some .int), Cond.methodLink RX9 215 yX9_weightOf, Cond.instanceMethod yX9_weightOf, Cond.selects RX9 yX9_weightOf yX9_weightOf, Cond.code yX9_weightOf cX9_weightOf 4 (some .int), Cond.fieldLink RX9 16 "ScaleGroupsModel" "w" "[I", Cond.methodLink RX9 333 yX9_farther]
def wsX9_laysLabels_r3 : List Cond := [Cond.instanceMethod yX9_farther, Cond.selects RX9 yX9_farther yX9_farther, Cond.code yX9_farther cX9_farther 3 (some .int), Cond.methodLink RX9 328 Lib.Math.abs.name, Cond.static Lib.Math.abs.name, Cond.initialized "java/lang/Math", Cond.code Lib.Math.abs.name Lib.Math.abs.code 1 (some .int), Cond.methodLink RX9 116 Lib.Math.max.name, Cond.static Lib.Math.max.name, Cond.code Lib.Math.max.name Lib.Math.max.code 2 (some .int), Cond.methodLink RX9 276 yX9_centre, Cond.instanceMethod yX9_centre, Cond.selects RX9 yX9_centre yX9_centre, Cond.code yX9_centre cX9_centre 5 (some .int), Cond.fieldLink RX9 7 "ScaleGroupsModel" "x" "[I", Cond.fieldLink RX9 13 "ScaleGroupsModel" "y" "[I"]
def wsX9_laysLabels : List Cond := .code yX9_laysLabels cX9_laysLabels 5 none :: ((wsX9_laysLabels_r1 ++ (wsX9_laysLabels_r2 ++ wsX9_laysLabels_r3)) ++ wsX90)
def wsX9_countedBy_r1 : List Cond := [Cond.fieldLink RX9 351 "ScaleGroupsModel" "shownMany" "I", Cond.fieldLink RX9 83 "ScaleGroupsModel" "shown" "[I", Cond.methodLink RX9 333 yX9_farther, Cond.instanceMethod yX9_farther, Cond.selects RX9 yX9_farther yX9_farther, Cond.initialized RX9, Cond.code yX9_farther cX9_farther 3 (some .int), Cond.methodLink RX9 328 Lib.Math.abs.name, Cond.static Lib.Math.abs.name, Cond.initialized "java/lang/Math", Cond.code Lib.Math.abs.name Lib.Math.abs.code 1 (some .int), Cond.methodLink RX9 116 Lib.Math.max.name, Cond.static Lib.Math.max.name, Cond.code Lib.Math.max.name Lib.Math.max.code 2 (some .int), Cond.methodLink RX9 276 yX9_centre, Cond.instanceMethod yX9_centre, Cond.selects RX9 yX9_centre yX9_centre, Cond.code yX9_centre cX9_centre 5 (some .int), Cond.fieldLink RX9 98 "ScaleGroupsModel" "n" "I", Cond.fieldLink RX9 16 "ScaleGroupsModel" "w" "[I", Cond.fieldLink RX9 7 "ScaleGroupsModel" "x" "[I", Cond.fieldLink RX9 13 "ScaleGroupsModel" "y" "[I", Cond.methodLink RX9 123 yX9_has, Cond.instanceMethod yX9_has]
def wsX9_countedBy_r2 : List Cond := [Cond.selects RX9 yX9_has yX9_has, Cond.code yX9_has cX9_has 3 (some .boolean), Cond.methodLink RX9 215 yX9_weightOf, Cond.instanceMethod yX9_weightOf, Cond.selects RX9 yX9_weightOf yX9_weightOf, Cond.code yX9_weightOf cX9_weightOf 4 (some .int)]
def wsX9_countedBy : List Cond := .code yX9_countedBy cX9_countedBy 4 (some .int) :: ((wsX9_countedBy_r1 ++ wsX9_countedBy_r2) ++ wsX90)
def wsX9_shown_r1 : List Cond := [Cond.fieldLink RX9 95 "ScaleGroupsModel" "told" "I", Cond.fieldLink RX9 351 "ScaleGroupsModel" "shownMany" "I", Cond.methodLink RX9 257 yX9_isZoom, Cond.instanceMethod yX9_isZoom, Cond.selects RX9 yX9_isZoom yX9_isZoom, Cond.initialized RX9, Cond.code yX9_isZoom cX9_isZoom 2 (some .boolean), Cond.constantLong RX9 105 (10), Cond.methodLink RX9 101 yX9_isIn, Cond.instanceMethod yX9_isIn, Cond.selects RX9 yX9_isIn yX9_isIn, Cond.code yX9_isIn cX9_isIn 7 (some .boolean), Cond.methodLink RX9 354 yX9_laysLabels, Cond.instanceMethod yX9_laysLabels, Cond.selects RX9 yX9_laysLabels yX9_laysLabels, Cond.code yX9_laysLabels cX9_laysLabels 5 none, Cond.fieldLink RX9 348 "ScaleGroupsModel" "rankedMany" "I", Cond.fieldLink RX9 98 "ScaleGroupsModel" "n" "I", Cond.fieldLink RX9 80 "ScaleGroupsModel" "ranked" "[I", Cond.fieldLink RX9 68 "ScaleGroupsModel" "partOf" "[I", Cond.fieldLink RX9 83 "ScaleGroupsModel" "shown" "[I", Cond.fieldLink RX9 19 "ScaleGroupsModel" "size" "I", Cond.methodLink RX9 260 yX9_laysZoom, Cond.instanceMethod yX9_laysZoom]
def wsX9_shown_r2 : List Cond := [Cond.selects RX9 yX9_laysZoom yX9_laysZoom, Cond.code yX9_laysZoom cX9_laysZoom 2 none, Cond.methodLink RX9 245 yX9_joinsOf, Cond.instanceMethod yX9_joinsOf, Cond.selects RX9 yX9_joinsOf yX9_joinsOf, Cond.code yX9_joinsOf cX9_joinsOf 3 (some .int), Cond.fieldLink RX9 29 "ScaleGroupsModel" "wide" "[I", Cond.methodLink RX9 119 yX9_joins, Cond.instanceMethod yX9_joins, Cond.selects RX9 yX9_joins yX9_joins, Cond.code yX9_joins cX9_joins 1 (some .int), Cond.methodLink RX9 242 yX9_radius, Cond.instanceMethod yX9_radius, Cond.selects RX9 yX9_radius yX9_radius, Cond.code yX9_radius cX9_radius 2 (some .int), Cond.methodLink RX9 248 yX9_laysParts, Cond.instanceMethod yX9_laysParts, Cond.selects RX9 yX9_laysParts yX9_laysParts, Cond.code yX9_laysParts cX9_laysParts 4 none, Cond.fieldLink RX9 32 "ScaleGroupsModel" "madeSet" "[I", Cond.methodLink RX9 123 yX9_has, Cond.instanceMethod yX9_has, Cond.selects RX9 yX9_has yX9_has, Cond.code yX9_has cX9_has 3 (some .boolean)]
def wsX9_shown_r3 : List Cond := [Cond.methodLink RX9 254 yX9_isFirst, Cond.instanceMethod yX9_isFirst, Cond.selects RX9 yX9_isFirst yX9_isFirst, Cond.code yX9_isFirst cX9_isFirst 2 (some .boolean), Cond.methodLink RX9 251 yX9_least, Cond.instanceMethod yX9_least, Cond.selects RX9 yX9_least yX9_least, Cond.code yX9_least cX9_least 3 (some .int), Cond.methodLink RX9 215 yX9_weightOf, Cond.instanceMethod yX9_weightOf, Cond.selects RX9 yX9_weightOf yX9_weightOf, Cond.code yX9_weightOf cX9_weightOf 4 (some .int), Cond.fieldLink RX9 16 "ScaleGroupsModel" "w" "[I", Cond.methodLink RX9 333 yX9_farther, Cond.instanceMethod yX9_farther, Cond.selects RX9 yX9_farther yX9_farther, Cond.code yX9_farther cX9_farther 3 (some .int), Cond.methodLink RX9 328 Lib.Math.abs.name, Cond.static Lib.Math.abs.name, Cond.initialized "java/lang/Math", Cond.code Lib.Math.abs.name Lib.Math.abs.code 1 (some .int), Cond.methodLink RX9 116 Lib.Math.max.name, Cond.static Lib.Math.max.name, Cond.code Lib.Math.max.name Lib.Math.max.code 2 (some .int)]
def wsX9_shown_r4 : List Cond := [Cond.methodLink RX9 276 yX9_centre, Cond.instanceMethod yX9_centre, Cond.selects RX9 yX9_centre yX9_centre, Cond.code yX9_centre cX9_centre 5 (some .int), Cond.fieldLink RX9 7 "ScaleGroupsModel" "x" "[I", Cond.fieldLink RX9 13 "ScaleGroupsModel" "y" "[I"]
def wsX9_shown : List Cond := .code yX9_shown cX9_shown 2 (some .int) :: ((wsX9_shown_r1 ++ (wsX9_shown_r2 ++ (wsX9_shown_r3 ++ wsX9_shown_r4))) ++ wsX90)
def wsX9_label_r1 : List Cond := [Cond.fieldLink RX9 95 "ScaleGroupsModel" "told" "I", Cond.constantLong RX9 237 (2), Cond.fieldLink RX9 351 "ScaleGroupsModel" "shownMany" "I", Cond.fieldLink RX9 83 "ScaleGroupsModel" "shown" "[I", Cond.fieldLink RX9 348 "ScaleGroupsModel" "rankedMany" "I", Cond.fieldLink RX9 80 "ScaleGroupsModel" "ranked" "[I", Cond.methodLink RX9 257 yX9_isZoom, Cond.instanceMethod yX9_isZoom, Cond.selects RX9 yX9_isZoom yX9_isZoom, Cond.initialized RX9, Cond.code yX9_isZoom cX9_isZoom 2 (some .boolean), Cond.constantLong RX9 105 (10), Cond.methodLink RX9 101 yX9_isIn, Cond.instanceMethod yX9_isIn, Cond.selects RX9 yX9_isIn yX9_isIn, Cond.code yX9_isIn cX9_isIn 7 (some .boolean), Cond.methodLink RX9 354 yX9_laysLabels, Cond.instanceMethod yX9_laysLabels, Cond.selects RX9 yX9_laysLabels yX9_laysLabels, Cond.code yX9_laysLabels cX9_laysLabels 5 none, Cond.fieldLink RX9 98 "ScaleGroupsModel" "n" "I", Cond.fieldLink RX9 68 "ScaleGroupsModel" "partOf" "[I", Cond.fieldLink RX9 19 "ScaleGroupsModel" "size" "I", Cond.methodLink RX9 260 yX9_laysZoom]
def wsX9_label_r2 : List Cond := [Cond.instanceMethod yX9_laysZoom, Cond.selects RX9 yX9_laysZoom yX9_laysZoom, Cond.code yX9_laysZoom cX9_laysZoom 2 none, Cond.methodLink RX9 245 yX9_joinsOf, Cond.instanceMethod yX9_joinsOf, Cond.selects RX9 yX9_joinsOf yX9_joinsOf, Cond.code yX9_joinsOf cX9_joinsOf 3 (some .int), Cond.fieldLink RX9 29 "ScaleGroupsModel" "wide" "[I", Cond.methodLink RX9 119 yX9_joins, Cond.instanceMethod yX9_joins, Cond.selects RX9 yX9_joins yX9_joins, Cond.code yX9_joins cX9_joins 1 (some .int), Cond.methodLink RX9 242 yX9_radius, Cond.instanceMethod yX9_radius, Cond.selects RX9 yX9_radius yX9_radius, Cond.code yX9_radius cX9_radius 2 (some .int), Cond.methodLink RX9 248 yX9_laysParts, Cond.instanceMethod yX9_laysParts, Cond.selects RX9 yX9_laysParts yX9_laysParts, Cond.code yX9_laysParts cX9_laysParts 4 none, Cond.fieldLink RX9 32 "ScaleGroupsModel" "madeSet" "[I", Cond.methodLink RX9 123 yX9_has, Cond.instanceMethod yX9_has, Cond.selects RX9 yX9_has yX9_has]
def wsX9_label_r3 : List Cond := [Cond.code yX9_has cX9_has 3 (some .boolean), Cond.methodLink RX9 254 yX9_isFirst, Cond.instanceMethod yX9_isFirst, Cond.selects RX9 yX9_isFirst yX9_isFirst, Cond.code yX9_isFirst cX9_isFirst 2 (some .boolean), Cond.methodLink RX9 251 yX9_least, Cond.instanceMethod yX9_least, Cond.selects RX9 yX9_least yX9_least, Cond.code yX9_least cX9_least 3 (some .int), Cond.methodLink RX9 215 yX9_weightOf, Cond.instanceMethod yX9_weightOf, Cond.selects RX9 yX9_weightOf yX9_weightOf, Cond.code yX9_weightOf cX9_weightOf 4 (some .int), Cond.fieldLink RX9 16 "ScaleGroupsModel" "w" "[I", Cond.methodLink RX9 333 yX9_farther, Cond.instanceMethod yX9_farther, Cond.selects RX9 yX9_farther yX9_farther, Cond.code yX9_farther cX9_farther 3 (some .int), Cond.methodLink RX9 328 Lib.Math.abs.name, Cond.static Lib.Math.abs.name, Cond.initialized "java/lang/Math", Cond.code Lib.Math.abs.name Lib.Math.abs.code 1 (some .int), Cond.methodLink RX9 116 Lib.Math.max.name, Cond.static Lib.Math.max.name]
def wsX9_label_r4 : List Cond := [Cond.code Lib.Math.max.name Lib.Math.max.code 2 (some .int), Cond.methodLink RX9 276 yX9_centre, Cond.instanceMethod yX9_centre, Cond.selects RX9 yX9_centre yX9_centre, Cond.code yX9_centre cX9_centre 5 (some .int), Cond.fieldLink RX9 7 "ScaleGroupsModel" "x" "[I", Cond.fieldLink RX9 13 "ScaleGroupsModel" "y" "[I", Cond.methodLink RX9 266 yX9_numberOf, Cond.instanceMethod yX9_numberOf, Cond.selects RX9 yX9_numberOf yX9_numberOf, Cond.code yX9_numberOf cX9_numberOf 4 (some .int), Cond.methodLink RX9 357 yX9_countedBy, Cond.instanceMethod yX9_countedBy, Cond.selects RX9 yX9_countedBy yX9_countedBy, Cond.code yX9_countedBy cX9_countedBy 4 (some .int)]
def wsX9_label : List Cond := .code yX9_label cX9_label 7 (some .int) :: ((wsX9_label_r1 ++ (wsX9_label_r2 ++ (wsX9_label_r3 ++ wsX9_label_r4))) ++ wsX90)
def wsX9_counted_r1 : List Cond := [Cond.fieldLink RX9 95 "ScaleGroupsModel" "told" "I", Cond.fieldLink RX9 83 "ScaleGroupsModel" "shown" "[I", Cond.methodLink RX9 269 yX9_groupSet, Cond.instanceMethod yX9_groupSet, Cond.selects RX9 yX9_groupSet yX9_groupSet, Cond.initialized RX9, Cond.code yX9_groupSet cX9_groupSet 5 (some .int), Cond.fieldLink RX9 98 "ScaleGroupsModel" "n" "I", Cond.fieldLink RX9 68 "ScaleGroupsModel" "partOf" "[I", Cond.methodLink RX9 257 yX9_isZoom, Cond.instanceMethod yX9_isZoom, Cond.selects RX9 yX9_isZoom yX9_isZoom, Cond.code yX9_isZoom cX9_isZoom 2 (some .boolean), Cond.constantLong RX9 105 (10), Cond.methodLink RX9 101 yX9_isIn, Cond.instanceMethod yX9_isIn, Cond.selects RX9 yX9_isIn yX9_isIn, Cond.code yX9_isIn cX9_isIn 7 (some .boolean), Cond.methodLink RX9 260 yX9_laysZoom, Cond.instanceMethod yX9_laysZoom, Cond.selects RX9 yX9_laysZoom yX9_laysZoom, Cond.code yX9_laysZoom cX9_laysZoom 2 none, Cond.methodLink RX9 245 yX9_joinsOf, Cond.instanceMethod yX9_joinsOf]
def wsX9_counted_r2 : List Cond := [Cond.selects RX9 yX9_joinsOf yX9_joinsOf, Cond.code yX9_joinsOf cX9_joinsOf 3 (some .int), Cond.fieldLink RX9 29 "ScaleGroupsModel" "wide" "[I", Cond.methodLink RX9 119 yX9_joins, Cond.instanceMethod yX9_joins, Cond.selects RX9 yX9_joins yX9_joins, Cond.code yX9_joins cX9_joins 1 (some .int), Cond.methodLink RX9 242 yX9_radius, Cond.instanceMethod yX9_radius, Cond.selects RX9 yX9_radius yX9_radius, Cond.code yX9_radius cX9_radius 2 (some .int), Cond.methodLink RX9 248 yX9_laysParts, Cond.instanceMethod yX9_laysParts, Cond.selects RX9 yX9_laysParts yX9_laysParts, Cond.code yX9_laysParts cX9_laysParts 4 none, Cond.fieldLink RX9 32 "ScaleGroupsModel" "madeSet" "[I", Cond.methodLink RX9 123 yX9_has, Cond.instanceMethod yX9_has, Cond.selects RX9 yX9_has yX9_has, Cond.code yX9_has cX9_has 3 (some .boolean), Cond.methodLink RX9 254 yX9_isFirst, Cond.instanceMethod yX9_isFirst, Cond.selects RX9 yX9_isFirst yX9_isFirst, Cond.code yX9_isFirst cX9_isFirst 2 (some .boolean)]
def wsX9_counted_r3 : List Cond := [Cond.methodLink RX9 251 yX9_least, Cond.instanceMethod yX9_least, Cond.selects RX9 yX9_least yX9_least, Cond.code yX9_least cX9_least 3 (some .int), Cond.methodLink RX9 354 yX9_laysLabels, Cond.instanceMethod yX9_laysLabels, Cond.selects RX9 yX9_laysLabels yX9_laysLabels, Cond.code yX9_laysLabels cX9_laysLabels 5 none, Cond.fieldLink RX9 348 "ScaleGroupsModel" "rankedMany" "I", Cond.fieldLink RX9 80 "ScaleGroupsModel" "ranked" "[I", Cond.fieldLink RX9 351 "ScaleGroupsModel" "shownMany" "I", Cond.fieldLink RX9 19 "ScaleGroupsModel" "size" "I", Cond.methodLink RX9 215 yX9_weightOf, Cond.instanceMethod yX9_weightOf, Cond.selects RX9 yX9_weightOf yX9_weightOf, Cond.code yX9_weightOf cX9_weightOf 4 (some .int), Cond.fieldLink RX9 16 "ScaleGroupsModel" "w" "[I", Cond.methodLink RX9 333 yX9_farther, Cond.instanceMethod yX9_farther, Cond.selects RX9 yX9_farther yX9_farther, Cond.code yX9_farther cX9_farther 3 (some .int), Cond.methodLink RX9 328 Lib.Math.abs.name, Cond.static Lib.Math.abs.name, Cond.initialized "java/lang/Math"]
def wsX9_counted_r4 : List Cond := [Cond.code Lib.Math.abs.name Lib.Math.abs.code 1 (some .int), Cond.methodLink RX9 116 Lib.Math.max.name, Cond.static Lib.Math.max.name, Cond.code Lib.Math.max.name Lib.Math.max.code 2 (some .int), Cond.methodLink RX9 276 yX9_centre, Cond.instanceMethod yX9_centre, Cond.selects RX9 yX9_centre yX9_centre, Cond.code yX9_centre cX9_centre 5 (some .int), Cond.fieldLink RX9 7 "ScaleGroupsModel" "x" "[I", Cond.fieldLink RX9 13 "ScaleGroupsModel" "y" "[I", Cond.methodLink RX9 357 yX9_countedBy, Cond.instanceMethod yX9_countedBy, Cond.selects RX9 yX9_countedBy yX9_countedBy, Cond.code yX9_countedBy cX9_countedBy 4 (some .int), Cond.methodLink RX9 266 yX9_numberOf, Cond.instanceMethod yX9_numberOf, Cond.selects RX9 yX9_numberOf yX9_numberOf, Cond.code yX9_numberOf cX9_numberOf 4 (some .int)]
def wsX9_counted : List Cond := .code yX9_counted cX9_counted 4 (some .int) :: ((wsX9_counted_r1 ++ (wsX9_counted_r2 ++ (wsX9_counted_r3 ++ wsX9_counted_r4))) ++ wsX90)
def wsX9_goneOnes_r1 : List Cond := [Cond.fieldLink RX9 145 "ScaleGroupsModel" "isRepaired" "Z", Cond.fieldLink RX9 62 "ScaleGroupsModel" "wasWide" "[I", Cond.methodLink RX9 149 yX9_wasJoins, Cond.instanceMethod yX9_wasJoins, Cond.selects RX9 yX9_wasJoins yX9_wasJoins, Cond.initialized RX9, Cond.code yX9_wasJoins cX9_wasJoins 1 (some .int), Cond.fieldLink RX9 138 "ScaleGroupsModel" "wasMany" "I", Cond.methodLink RX9 360 yX9_isGone, Cond.instanceMethod yX9_isGone, Cond.selects RX9 yX9_isGone yX9_isGone, Cond.code yX9_isGone cX9_isGone 3 (some .boolean), Cond.methodLink RX9 119 yX9_joins, Cond.instanceMethod yX9_joins, Cond.selects RX9 yX9_joins yX9_joins, Cond.code yX9_joins cX9_joins 1 (some .int), Cond.fieldLink RX9 98 "ScaleGroupsModel" "n" "I", Cond.methodLink RX9 152 yX9_areSame, Cond.instanceMethod yX9_areSame, Cond.selects RX9 yX9_areSame yX9_areSame, Cond.code yX9_areSame cX9_areSame 5 (some .boolean), Cond.fieldLink RX9 23 "ScaleGroupsModel" "first" "[I", Cond.fieldLink RX9 26 "ScaleGroupsModel" "second" "[I", Cond.fieldLink RX9 56 "ScaleGroupsModel" "wasOne" "[I"]
def wsX9_goneOnes_r2 : List Cond := [Cond.fieldLink RX9 59 "ScaleGroupsModel" "wasOther" "[I", Cond.methodLink RX9 141 yX9_placeOf, Cond.instanceMethod yX9_placeOf, Cond.selects RX9 yX9_placeOf yX9_placeOf, Cond.code yX9_placeOf cX9_placeOf 2 (some .int), Cond.fieldLink RX9 13 "ScaleGroupsModel" "y" "[I", Cond.fieldLink RX9 7 "ScaleGroupsModel" "x" "[I"]
def wsX9_goneOnes : List Cond := .code yX9_goneOnes cX9_goneOnes 4 (some .int) :: ((wsX9_goneOnes_r1 ++ wsX9_goneOnes_r2) ++ wsX90)
def wsX9_asTheyWere_r1 : List Cond := [Cond.fieldLink RX9 145 "ScaleGroupsModel" "isRepaired" "Z", Cond.methodLink RX9 119 yX9_joins, Cond.instanceMethod yX9_joins, Cond.selects RX9 yX9_joins yX9_joins, Cond.initialized RX9, Cond.code yX9_joins cX9_joins 1 (some .int), Cond.fieldLink RX9 98 "ScaleGroupsModel" "n" "I", Cond.methodLink RX9 149 yX9_wasJoins, Cond.instanceMethod yX9_wasJoins, Cond.selects RX9 yX9_wasJoins yX9_wasJoins, Cond.code yX9_wasJoins cX9_wasJoins 1 (some .int), Cond.fieldLink RX9 138 "ScaleGroupsModel" "wasMany" "I", Cond.methodLink RX9 152 yX9_areSame, Cond.instanceMethod yX9_areSame, Cond.selects RX9 yX9_areSame yX9_areSame, Cond.code yX9_areSame cX9_areSame 5 (some .boolean), Cond.fieldLink RX9 23 "ScaleGroupsModel" "first" "[I", Cond.fieldLink RX9 26 "ScaleGroupsModel" "second" "[I", Cond.fieldLink RX9 56 "ScaleGroupsModel" "wasOne" "[I", Cond.fieldLink RX9 59 "ScaleGroupsModel" "wasOther" "[I", Cond.methodLink RX9 141 yX9_placeOf, Cond.instanceMethod yX9_placeOf, Cond.selects RX9 yX9_placeOf yX9_placeOf, Cond.code yX9_placeOf cX9_placeOf 2 (some .int)]
def wsX9_asTheyWere_r2 : List Cond := [Cond.fieldLink RX9 13 "ScaleGroupsModel" "y" "[I", Cond.fieldLink RX9 7 "ScaleGroupsModel" "x" "[I"]
def wsX9_asTheyWere : List Cond := .code yX9_asTheyWere cX9_asTheyWere 2 (some .int) :: ((wsX9_asTheyWere_r1 ++ wsX9_asTheyWere_r2) ++ wsX90)
def wsX9_repaired_r1 : List Cond := [Cond.fieldLink RX9 95 "ScaleGroupsModel" "told" "I", Cond.fieldLink RX9 29 "ScaleGroupsModel" "wide" "[I", Cond.methodLink RX9 179 yX9_newOnes, Cond.instanceMethod yX9_newOnes, Cond.selects RX9 yX9_newOnes yX9_newOnes, Cond.initialized RX9, Cond.code yX9_newOnes cX9_newOnes 3 (some .int), Cond.methodLink RX9 119 yX9_joins, Cond.instanceMethod yX9_joins, Cond.selects RX9 yX9_joins yX9_joins, Cond.code yX9_joins cX9_joins 1 (some .int), Cond.fieldLink RX9 98 "ScaleGroupsModel" "n" "I", Cond.methodLink RX9 155 yX9_isNew, Cond.instanceMethod yX9_isNew, Cond.selects RX9 yX9_isNew yX9_isNew, Cond.code yX9_isNew cX9_isNew 3 (some .boolean), Cond.fieldLink RX9 145 "ScaleGroupsModel" "isRepaired" "Z", Cond.methodLink RX9 149 yX9_wasJoins, Cond.instanceMethod yX9_wasJoins, Cond.selects RX9 yX9_wasJoins yX9_wasJoins, Cond.code yX9_wasJoins cX9_wasJoins 1 (some .int), Cond.fieldLink RX9 138 "ScaleGroupsModel" "wasMany" "I", Cond.methodLink RX9 152 yX9_areSame, Cond.instanceMethod yX9_areSame]
def wsX9_repaired_r2 : List Cond := [Cond.selects RX9 yX9_areSame yX9_areSame, Cond.code yX9_areSame cX9_areSame 5 (some .boolean), Cond.fieldLink RX9 23 "ScaleGroupsModel" "first" "[I", Cond.fieldLink RX9 26 "ScaleGroupsModel" "second" "[I", Cond.fieldLink RX9 56 "ScaleGroupsModel" "wasOne" "[I", Cond.fieldLink RX9 59 "ScaleGroupsModel" "wasOther" "[I", Cond.methodLink RX9 141 yX9_placeOf, Cond.instanceMethod yX9_placeOf, Cond.selects RX9 yX9_placeOf yX9_placeOf, Cond.code yX9_placeOf cX9_placeOf 2 (some .int), Cond.fieldLink RX9 13 "ScaleGroupsModel" "y" "[I", Cond.fieldLink RX9 7 "ScaleGroupsModel" "x" "[I", Cond.methodLink RX9 363 yX9_goneOnes, Cond.instanceMethod yX9_goneOnes, Cond.selects RX9 yX9_goneOnes yX9_goneOnes, Cond.code yX9_goneOnes cX9_goneOnes 4 (some .int), Cond.fieldLink RX9 62 "ScaleGroupsModel" "wasWide" "[I", Cond.methodLink RX9 360 yX9_isGone, Cond.instanceMethod yX9_isGone, Cond.selects RX9 yX9_isGone yX9_isGone, Cond.code yX9_isGone cX9_isGone 3 (some .boolean), Cond.methodLink RX9 367 yX9_asTheyWere, Cond.instanceMethod yX9_asTheyWere, Cond.selects RX9 yX9_asTheyWere yX9_asTheyWere]
def wsX9_repaired_r3 : List Cond := [Cond.code yX9_asTheyWere cX9_asTheyWere 2 (some .int)]
def wsX9_repaired : List Cond := .code yX9_repaired cX9_repaired 4 (some .int) :: ((wsX9_repaired_r1 ++ (wsX9_repaired_r2 ++ wsX9_repaired_r3)) ++ wsX90)
def wsX9_allApart : List Cond := .code yX9_allApart cX9_allApart 3 (some .int) :: ([.fieldLink RX9 29 "ScaleGroupsModel" "wide" "[I", .methodLink RX9 119 yX9_joins, .instanceMethod yX9_joins, .selects RX9 yX9_joins yX9_joins, .initialized RX9, .code yX9_joins cX9_joins 1 (some .int), .fieldLink RX9 98 "ScaleGroupsModel" "n" "I"] ++ wsX90)
def wsX9_would_r1 : List Cond := [Cond.fieldLink RX9 95 "ScaleGroupsModel" "told" "I", Cond.constant RX9 370 (-10000000), Cond.fieldLink RX9 86 "ScaleGroupsModel" "asideOne" "[I", Cond.fieldLink RX9 23 "ScaleGroupsModel" "first" "[I", Cond.fieldLink RX9 89 "ScaleGroupsModel" "asideOther" "[I", Cond.fieldLink RX9 26 "ScaleGroupsModel" "second" "[I", Cond.methodLink RX9 164 yX9_canCome, Cond.instanceMethod yX9_canCome, Cond.selects RX9 yX9_canCome yX9_canCome, Cond.initialized RX9, Cond.code yX9_canCome cX9_canCome 3 (some .boolean), Cond.fieldLink RX9 98 "ScaleGroupsModel" "n" "I", Cond.constantLong RX9 159 (1023), Cond.methodLink RX9 101 yX9_isIn, Cond.instanceMethod yX9_isIn, Cond.selects RX9 yX9_isIn yX9_isIn, Cond.code yX9_isIn cX9_isIn 7 (some .boolean), Cond.methodLink RX9 161 yX9_pointAt, Cond.instanceMethod yX9_pointAt, Cond.selects RX9 yX9_pointAt yX9_pointAt, Cond.code yX9_pointAt cX9_pointAt 4 (some .int), Cond.fieldLink RX9 7 "ScaleGroupsModel" "x" "[I", Cond.fieldLink RX9 13 "ScaleGroupsModel" "y" "[I", Cond.methodLink RX9 119 yX9_joins]
def wsX9_would_r2 : List Cond := [Cond.instanceMethod yX9_joins, Cond.selects RX9 yX9_joins yX9_joins, Cond.code yX9_joins cX9_joins 1 (some .int), Cond.methodLink RX9 371 yX9_allApart, Cond.instanceMethod yX9_allApart, Cond.selects RX9 yX9_allApart yX9_allApart, Cond.code yX9_allApart cX9_allApart 3 (some .int), Cond.fieldLink RX9 29 "ScaleGroupsModel" "wide" "[I", Cond.methodLink RX9 141 yX9_placeOf, Cond.instanceMethod yX9_placeOf, Cond.selects RX9 yX9_placeOf yX9_placeOf, Cond.code yX9_placeOf cX9_placeOf 2 (some .int), Cond.methodLink RX9 172 yX9_comes, Cond.instanceMethod yX9_comes, Cond.selects RX9 yX9_comes yX9_comes, Cond.code yX9_comes cX9_comes 5 none, Cond.fieldLink RX9 16 "ScaleGroupsModel" "w" "[I", Cond.methodLink RX9 176 yX9_laysTree, Cond.instanceMethod yX9_laysTree, Cond.selects RX9 yX9_laysTree yX9_laysTree, Cond.code yX9_laysTree cX9_laysTree 7 none, Cond.methodLink RX9 111 Lib.Math.min.name, Cond.static Lib.Math.min.name, Cond.initialized "java/lang/Math"]
def wsX9_would_r3 : List Cond := [Cond.code Lib.Math.min.name Lib.Math.min.code 2 (some .int), Cond.methodLink RX9 116 Lib.Math.max.name, Cond.static Lib.Math.max.name, Cond.code Lib.Math.max.name Lib.Math.max.code 2 (some .int), Cond.methodLink RX9 123 yX9_has, Cond.instanceMethod yX9_has, Cond.selects RX9 yX9_has yX9_has, Cond.code yX9_has cX9_has 3 (some .boolean), Cond.methodLink RX9 127 yX9_isSooner, Cond.instanceMethod yX9_isSooner, Cond.selects RX9 yX9_isSooner yX9_isSooner, Cond.code yX9_isSooner cX9_isSooner 7 (some .boolean), Cond.methodLink RX9 107 yX9_apart, Cond.instanceMethod yX9_apart, Cond.selects RX9 yX9_apart yX9_apart, Cond.code yX9_apart cX9_apart 3 (some .int), Cond.methodLink RX9 131 yX9_laysSides, Cond.instanceMethod yX9_laysSides, Cond.selects RX9 yX9_laysSides yX9_laysSides, Cond.code yX9_laysSides cX9_laysSides 3 none, Cond.fieldLink RX9 47 "ScaleGroupsModel" "nodeOf" "[I", Cond.fieldLink RX9 50 "ScaleGroupsModel" "setOf" "[I", Cond.fieldLink RX9 44 "ScaleGroupsModel" "abovePoint" "[I", Cond.fieldLink RX9 41 "ScaleGroupsModel" "aboveJoin" "[I"]
def wsX9_would_r4 : List Cond := [Cond.fieldLink RX9 35 "ScaleGroupsModel" "oneSide" "[I", Cond.fieldLink RX9 38 "ScaleGroupsModel" "otherSide" "[I", Cond.fieldLink RX9 32 "ScaleGroupsModel" "madeSet" "[I", Cond.methodLink RX9 134 yX9_puts, Cond.instanceMethod yX9_puts, Cond.selects RX9 yX9_puts yX9_puts, Cond.code yX9_puts cX9_puts 3 none, Cond.methodLink RX9 185 yX9_goes, Cond.instanceMethod yX9_goes, Cond.selects RX9 yX9_goes yX9_goes, Cond.code yX9_goes cX9_goes 3 none]
def wsX9_would : List Cond := .code yX9_would cX9_would 12 (some .int) :: ((wsX9_would_r1 ++ (wsX9_would_r2 ++ (wsX9_would_r3 ++ wsX9_would_r4))) ++ wsX90)
def wsX9_laysWas : List Cond := .code yX9_laysWas cX9_laysWas 6 none :: ([.fieldLink RX9 138 "ScaleGroupsModel" "wasMany" "I", .fieldLink RX9 92 "ScaleGroupsModel" "wasPart" "[I", .fieldLink RX9 62 "ScaleGroupsModel" "wasWide" "[I", .fieldLink RX9 53 "ScaleGroupsModel" "wasPlace" "[I", .fieldLink RX9 56 "ScaleGroupsModel" "wasOne" "[I", .fieldLink RX9 59 "ScaleGroupsModel" "wasOther" "[I", .methodLink RX9 149 yX9_wasJoins, .instanceMethod yX9_wasJoins, .selects RX9 yX9_wasJoins yX9_wasJoins, .initialized RX9, .code yX9_wasJoins cX9_wasJoins 1 (some .int), .methodLink RX9 242 yX9_radius, .instanceMethod yX9_radius, .selects RX9 yX9_radius yX9_radius, .code yX9_radius cX9_radius 2 (some .int)] ++ wsX90)
def wsX9_nowAt : List Cond := .code yX9_nowAt cX9_nowAt 2 (some .int) :: ([.methodLink RX9 161 yX9_pointAt, .instanceMethod yX9_pointAt, .selects RX9 yX9_pointAt yX9_pointAt, .initialized RX9, .code yX9_pointAt cX9_pointAt 4 (some .int), .fieldLink RX9 98 "ScaleGroupsModel" "n" "I", .fieldLink RX9 7 "ScaleGroupsModel" "x" "[I", .fieldLink RX9 13 "ScaleGroupsModel" "y" "[I"] ++ wsX90)
def wsX9_stirred_r1 : List Cond := [Cond.fieldLink RX9 95 "ScaleGroupsModel" "told" "I", Cond.fieldLink RX9 145 "ScaleGroupsModel" "isRepaired" "Z", Cond.fieldLink RX9 138 "ScaleGroupsModel" "wasMany" "I", Cond.fieldLink RX9 53 "ScaleGroupsModel" "wasPlace" "[I", Cond.fieldLink RX9 68 "ScaleGroupsModel" "partOf" "[I", Cond.fieldLink RX9 92 "ScaleGroupsModel" "wasPart" "[I", Cond.methodLink RX9 257 yX9_isZoom, Cond.instanceMethod yX9_isZoom, Cond.selects RX9 yX9_isZoom yX9_isZoom, Cond.initialized RX9, Cond.code yX9_isZoom cX9_isZoom 2 (some .boolean), Cond.constantLong RX9 105 (10), Cond.methodLink RX9 101 yX9_isIn, Cond.instanceMethod yX9_isIn, Cond.selects RX9 yX9_isIn yX9_isIn, Cond.code yX9_isIn cX9_isIn 7 (some .boolean), Cond.methodLink RX9 374 yX9_laysWas, Cond.instanceMethod yX9_laysWas, Cond.selects RX9 yX9_laysWas yX9_laysWas, Cond.code yX9_laysWas cX9_laysWas 6 none, Cond.fieldLink RX9 62 "ScaleGroupsModel" "wasWide" "[I", Cond.fieldLink RX9 56 "ScaleGroupsModel" "wasOne" "[I", Cond.fieldLink RX9 59 "ScaleGroupsModel" "wasOther" "[I", Cond.methodLink RX9 149 yX9_wasJoins]
def wsX9_stirred_r2 : List Cond := [Cond.instanceMethod yX9_wasJoins, Cond.selects RX9 yX9_wasJoins yX9_wasJoins, Cond.code yX9_wasJoins cX9_wasJoins 1 (some .int), Cond.methodLink RX9 242 yX9_radius, Cond.instanceMethod yX9_radius, Cond.selects RX9 yX9_radius yX9_radius, Cond.code yX9_radius cX9_radius 2 (some .int), Cond.methodLink RX9 260 yX9_laysZoom, Cond.instanceMethod yX9_laysZoom, Cond.selects RX9 yX9_laysZoom yX9_laysZoom, Cond.code yX9_laysZoom cX9_laysZoom 2 none, Cond.methodLink RX9 245 yX9_joinsOf, Cond.instanceMethod yX9_joinsOf, Cond.selects RX9 yX9_joinsOf yX9_joinsOf, Cond.code yX9_joinsOf cX9_joinsOf 3 (some .int), Cond.fieldLink RX9 29 "ScaleGroupsModel" "wide" "[I", Cond.methodLink RX9 119 yX9_joins, Cond.instanceMethod yX9_joins, Cond.selects RX9 yX9_joins yX9_joins, Cond.code yX9_joins cX9_joins 1 (some .int), Cond.fieldLink RX9 98 "ScaleGroupsModel" "n" "I", Cond.methodLink RX9 248 yX9_laysParts, Cond.instanceMethod yX9_laysParts, Cond.selects RX9 yX9_laysParts yX9_laysParts]
def wsX9_stirred_r3 : List Cond := [Cond.code yX9_laysParts cX9_laysParts 4 none, Cond.fieldLink RX9 32 "ScaleGroupsModel" "madeSet" "[I", Cond.methodLink RX9 123 yX9_has, Cond.instanceMethod yX9_has, Cond.selects RX9 yX9_has yX9_has, Cond.code yX9_has cX9_has 3 (some .boolean), Cond.methodLink RX9 377 yX9_nowAt, Cond.instanceMethod yX9_nowAt, Cond.selects RX9 yX9_nowAt yX9_nowAt, Cond.code yX9_nowAt cX9_nowAt 2 (some .int), Cond.methodLink RX9 161 yX9_pointAt, Cond.instanceMethod yX9_pointAt, Cond.selects RX9 yX9_pointAt yX9_pointAt, Cond.code yX9_pointAt cX9_pointAt 4 (some .int), Cond.fieldLink RX9 7 "ScaleGroupsModel" "x" "[I", Cond.fieldLink RX9 13 "ScaleGroupsModel" "y" "[I"]
def wsX9_stirred : List Cond := .code yX9_stirred cX9_stirred 7 (some .int) :: ((wsX9_stirred_r1 ++ (wsX9_stirred_r2 ++ wsX9_stirred_r3)) ++ wsX90)
def wsX9_rootsOfAll : List Cond := .code yX9_rootsOfAll cX9_rootsOfAll 3 (some .int) :: ([.fieldLink RX9 29 "ScaleGroupsModel" "wide" "[I", .methodLink RX9 119 yX9_joins, .instanceMethod yX9_joins, .selects RX9 yX9_joins yX9_joins, .initialized RX9, .code yX9_joins cX9_joins 1 (some .int), .fieldLink RX9 98 "ScaleGroupsModel" "n" "I", .methodLink RX9 218 yX9_root, .instanceMethod yX9_root, .selects RX9 yX9_root yX9_root, .code yX9_root cX9_root 3 (some .int)] ++ wsX90)
def wsX9_mostLinks : List Cond := .code yX9_mostLinks cX9_mostLinks 3 (some .int) :: ([.fieldLink RX9 98 "ScaleGroupsModel" "n" "I", .methodLink RX9 116 Lib.Math.max.name, .static Lib.Math.max.name, .initialized "java/lang/Math", .code Lib.Math.max.name Lib.Math.max.code 2 (some .int), .methodLink RX9 201 yX9_linksOf, .instanceMethod yX9_linksOf, .selects RX9 yX9_linksOf yX9_linksOf, .initialized RX9, .code yX9_linksOf cX9_linksOf 4 (some .int), .fieldLink RX9 23 "ScaleGroupsModel" "first" "[I", .fieldLink RX9 26 "ScaleGroupsModel" "second" "[I", .methodLink RX9 119 yX9_joins, .instanceMethod yX9_joins, .selects RX9 yX9_joins yX9_joins, .code yX9_joins cX9_joins 1 (some .int)] ++ wsX90)
def wsX9_groupsOfAll_r1 : List Cond := [Cond.methodLink RX9 260 yX9_laysZoom, Cond.instanceMethod yX9_laysZoom, Cond.selects RX9 yX9_laysZoom yX9_laysZoom, Cond.initialized RX9, Cond.code yX9_laysZoom cX9_laysZoom 2 none, Cond.methodLink RX9 245 yX9_joinsOf, Cond.instanceMethod yX9_joinsOf, Cond.selects RX9 yX9_joinsOf yX9_joinsOf, Cond.code yX9_joinsOf cX9_joinsOf 3 (some .int), Cond.fieldLink RX9 29 "ScaleGroupsModel" "wide" "[I", Cond.methodLink RX9 119 yX9_joins, Cond.instanceMethod yX9_joins, Cond.selects RX9 yX9_joins yX9_joins, Cond.code yX9_joins cX9_joins 1 (some .int), Cond.fieldLink RX9 98 "ScaleGroupsModel" "n" "I", Cond.methodLink RX9 242 yX9_radius, Cond.instanceMethod yX9_radius, Cond.selects RX9 yX9_radius yX9_radius, Cond.code yX9_radius cX9_radius 2 (some .int), Cond.methodLink RX9 248 yX9_laysParts, Cond.instanceMethod yX9_laysParts, Cond.selects RX9 yX9_laysParts yX9_laysParts, Cond.code yX9_laysParts cX9_laysParts 4 none, Cond.fieldLink RX9 68 "ScaleGroupsModel" "partOf" "[I"]
def wsX9_groupsOfAll_r2 : List Cond := [Cond.fieldLink RX9 32 "ScaleGroupsModel" "madeSet" "[I", Cond.methodLink RX9 123 yX9_has, Cond.instanceMethod yX9_has, Cond.selects RX9 yX9_has yX9_has, Cond.code yX9_has cX9_has 3 (some .boolean), Cond.methodLink RX9 263 yX9_partsNow, Cond.instanceMethod yX9_partsNow, Cond.selects RX9 yX9_partsNow yX9_partsNow, Cond.code yX9_partsNow cX9_partsNow 3 (some .int), Cond.methodLink RX9 254 yX9_isFirst, Cond.instanceMethod yX9_isFirst, Cond.selects RX9 yX9_isFirst yX9_isFirst, Cond.code yX9_isFirst cX9_isFirst 2 (some .boolean), Cond.methodLink RX9 251 yX9_least, Cond.instanceMethod yX9_least, Cond.selects RX9 yX9_least yX9_least, Cond.code yX9_least cX9_least 3 (some .int)]
def wsX9_groupsOfAll : List Cond := .code yX9_groupsOfAll cX9_groupsOfAll 3 (some .int) :: ((wsX9_groupsOfAll_r1 ++ wsX9_groupsOfAll_r2) ++ wsX90)
def wsX9_look_r1 : List Cond := [Cond.fieldLink RX9 95 "ScaleGroupsModel" "told" "I", Cond.fieldLink RX9 98 "ScaleGroupsModel" "n" "I", Cond.fieldLink RX9 19 "ScaleGroupsModel" "size" "I", Cond.fieldLink RX9 190 "ScaleGroupsModel" "state" "I", Cond.methodLink RX9 215 yX9_weightOf, Cond.instanceMethod yX9_weightOf, Cond.selects RX9 yX9_weightOf yX9_weightOf, Cond.initialized RX9, Cond.code yX9_weightOf cX9_weightOf 4 (some .int), Cond.fieldLink RX9 16 "ScaleGroupsModel" "w" "[I", Cond.methodLink RX9 123 yX9_has, Cond.instanceMethod yX9_has, Cond.selects RX9 yX9_has yX9_has, Cond.code yX9_has cX9_has 3 (some .boolean), Cond.methodLink RX9 371 yX9_allApart, Cond.instanceMethod yX9_allApart, Cond.selects RX9 yX9_allApart yX9_allApart, Cond.code yX9_allApart cX9_allApart 3 (some .int), Cond.fieldLink RX9 29 "ScaleGroupsModel" "wide" "[I", Cond.methodLink RX9 119 yX9_joins, Cond.instanceMethod yX9_joins, Cond.selects RX9 yX9_joins yX9_joins, Cond.code yX9_joins cX9_joins 1 (some .int), Cond.methodLink RX9 380 yX9_rootsOfAll]
def wsX9_look_r2 : List Cond := [Cond.instanceMethod yX9_rootsOfAll, Cond.selects RX9 yX9_rootsOfAll yX9_rootsOfAll, Cond.code yX9_rootsOfAll cX9_rootsOfAll 3 (some .int), Cond.methodLink RX9 218 yX9_root, Cond.instanceMethod yX9_root, Cond.selects RX9 yX9_root yX9_root, Cond.code yX9_root cX9_root 3 (some .int), Cond.methodLink RX9 289 yX9_widest, Cond.instanceMethod yX9_widest, Cond.selects RX9 yX9_widest yX9_widest, Cond.code yX9_widest cX9_widest 5 (some .int), Cond.methodLink RX9 116 Lib.Math.max.name, Cond.static Lib.Math.max.name, Cond.initialized "java/lang/Math", Cond.code Lib.Math.max.name Lib.Math.max.code 2 (some .int), Cond.methodLink RX9 107 yX9_apart, Cond.instanceMethod yX9_apart, Cond.selects RX9 yX9_apart yX9_apart, Cond.code yX9_apart cX9_apart 3 (some .int), Cond.fieldLink RX9 7 "ScaleGroupsModel" "x" "[I", Cond.fieldLink RX9 13 "ScaleGroupsModel" "y" "[I", Cond.methodLink RX9 383 yX9_mostLinks, Cond.instanceMethod yX9_mostLinks, Cond.selects RX9 yX9_mostLinks yX9_mostLinks]
def wsX9_look_r3 : List Cond := [Cond.code yX9_mostLinks cX9_mostLinks 3 (some .int), Cond.methodLink RX9 201 yX9_linksOf, Cond.instanceMethod yX9_linksOf, Cond.selects RX9 yX9_linksOf yX9_linksOf, Cond.code yX9_linksOf cX9_linksOf 4 (some .int), Cond.fieldLink RX9 23 "ScaleGroupsModel" "first" "[I", Cond.fieldLink RX9 26 "ScaleGroupsModel" "second" "[I", Cond.methodLink RX9 386 yX9_groupsOfAll, Cond.instanceMethod yX9_groupsOfAll, Cond.selects RX9 yX9_groupsOfAll yX9_groupsOfAll, Cond.code yX9_groupsOfAll cX9_groupsOfAll 3 (some .int), Cond.methodLink RX9 260 yX9_laysZoom, Cond.instanceMethod yX9_laysZoom, Cond.selects RX9 yX9_laysZoom yX9_laysZoom, Cond.code yX9_laysZoom cX9_laysZoom 2 none, Cond.methodLink RX9 245 yX9_joinsOf, Cond.instanceMethod yX9_joinsOf, Cond.selects RX9 yX9_joinsOf yX9_joinsOf, Cond.code yX9_joinsOf cX9_joinsOf 3 (some .int), Cond.methodLink RX9 242 yX9_radius, Cond.instanceMethod yX9_radius, Cond.selects RX9 yX9_radius yX9_radius, Cond.code yX9_radius cX9_radius 2 (some .int), Cond.methodLink RX9 248 yX9_laysParts]
def wsX9_look_r4 : List Cond := [Cond.instanceMethod yX9_laysParts, Cond.selects RX9 yX9_laysParts yX9_laysParts, Cond.code yX9_laysParts cX9_laysParts 4 none, Cond.fieldLink RX9 68 "ScaleGroupsModel" "partOf" "[I", Cond.fieldLink RX9 32 "ScaleGroupsModel" "madeSet" "[I", Cond.methodLink RX9 263 yX9_partsNow, Cond.instanceMethod yX9_partsNow, Cond.selects RX9 yX9_partsNow yX9_partsNow, Cond.code yX9_partsNow cX9_partsNow 3 (some .int), Cond.methodLink RX9 254 yX9_isFirst, Cond.instanceMethod yX9_isFirst, Cond.selects RX9 yX9_isFirst yX9_isFirst, Cond.code yX9_isFirst cX9_isFirst 2 (some .boolean), Cond.methodLink RX9 251 yX9_least, Cond.instanceMethod yX9_least, Cond.selects RX9 yX9_least yX9_least, Cond.code yX9_least cX9_least 3 (some .int)]
def wsX9_look : List Cond := .code yX9_look cX9_look 2 (some .int) :: ((wsX9_look_r1 ++ (wsX9_look_r2 ++ (wsX9_look_r3 ++ wsX9_look_r4))) ++ wsX90)
def wsJ9_abs_0f7a4 : List Cond := .code yJ9_abs_0f7a4 cJ9_abs_0f7a4 1 (some .int) :: ([])
def wsJ9_max_7cf53 : List Cond := .code yJ9_max_7cf53 cJ9_max_7cf53 2 (some .int) :: ([])
def wsJ9_min_7cf53 : List Cond := .code yJ9_min_7cf53 cJ9_min_7cf53 2 (some .int) :: ([])
def wsJ9_min_f86c9 : List Cond := .code yJ9_min_f86c9 cJ9_min_f86c9 4 (some .long) :: ([])
def wsL_law_r1 : List Cond := [Cond.classLink RL 7 RX8, Cond.instantiable RX8 12, Cond.initialized RX8, Cond.classLink RL 10 RX9, Cond.instantiable RX9 38, Cond.initialized RX9, Cond.methodLink RL 9 yX8_init, Cond.instanceMethod yX8_init, Cond.code yX8_init cX8_init 1 none, Cond.methodLink RX8 3 objectInit, Cond.instanceMethod objectInit, Cond.code objectInit ⟨#[0xb1]⟩ 1 none, Cond.classLink RX8 9 RX2, Cond.instantiable RX2 15, Cond.initialized RX2, Cond.fieldLink RX8 12 "ScaleGroups" "now" "LScaleGroups$Order;", Cond.fieldLink RX8 16 "ScaleGroups" "ahead" "LScaleGroups$Order;", Cond.fieldLink RX8 19 "ScaleGroups" "tried" "LScaleGroups$Order;", Cond.classLink RX8 22 RX5, Cond.instantiable RX5 6, Cond.initialized RX5, Cond.fieldLink RX8 25 "ScaleGroups" "scale" "LScaleGroups$Scale;", Cond.fieldLink RX8 29 "ScaleGroups" "other" "LScaleGroups$Scale;", Cond.classLink RX8 32 RX0]
def wsL_law_r2 : List Cond := [Cond.instantiable RX0 3, Cond.initialized RX0, Cond.fieldLink RX8 35 "ScaleGroups" "labels" "LScaleGroups$Labels;", Cond.classLink RX8 39 RX3, Cond.instantiable RX3 2, Cond.initialized RX3, Cond.fieldLink RX8 42 "ScaleGroups" "corners" "LScaleGroups$Outline;", Cond.classLink RX8 46 RX7, Cond.instantiable RX7 1, Cond.initialized RX7, Cond.fieldLink RX8 49 "ScaleGroups" "ways" "LScaleGroups$Ways;", Cond.classLink RX8 53 RX1, Cond.instantiable RX1 5, Cond.initialized RX1, Cond.fieldLink RX8 56 "ScaleGroups" "lasting" "LScaleGroups$Lasting;", Cond.arrayClass .int, Cond.fieldLink RX8 60 "ScaleGroups" "row" "[I", Cond.fieldLink RX8 64 "ScaleGroups" "labelSize" "I", Cond.fieldLink RX8 68 "ScaleGroups" "drawState" "I", Cond.methodLink RX8 11 yX2_init, Cond.instanceMethod yX2_init, Cond.code yX2_init cX2_init 1 none, Cond.methodLink RX2 3 objectInit, Cond.classLink RX2 9 RX4]
def wsL_law_r3 : List Cond := [Cond.instantiable RX4 4, Cond.initialized RX4, Cond.fieldLink RX2 12 "ScaleGroups$Order" "points" "LScaleGroups$Points;", Cond.fieldLink RX2 18 "ScaleGroups$Order" "count" "I", Cond.arrayClass .long, Cond.fieldLink RX2 22 "ScaleGroups$Order" "keys" "[J", Cond.fieldLink RX2 26 "ScaleGroups$Order" "aparts" "[I", Cond.fieldLink RX2 30 "ScaleGroups$Order" "roots" "[I", Cond.fieldLink RX2 33 "ScaleGroups$Order" "firsts" "[I", Cond.fieldLink RX2 36 "ScaleGroups$Order" "seconds" "[I", Cond.fieldLink RX2 39 "ScaleGroups$Order" "parts" "[I", Cond.fieldLink RX2 42 "ScaleGroups$Order" "firstSides" "[I", Cond.fieldLink RX2 45 "ScaleGroups$Order" "otherSides" "[I", Cond.fieldLink RX2 48 "ScaleGroups$Order" "joinsAbove" "[I", Cond.fieldLink RX2 51 "ScaleGroups$Order" "pointsAbove" "[I", Cond.fieldLink RX2 54 "ScaleGroups$Order" "pairs" "[J", Cond.fieldLink RX2 57 "ScaleGroups$Order" "links" "[J", Cond.fieldLink RX2 60 "ScaleGroups$Order" "nodes" "[I", Cond.methodLink RX2 11 yX4_init, Cond.instanceMethod yX4_init, Cond.code yX4_init cX4_init 1 none, Cond.methodLink RX4 3 objectInit, Cond.fieldLink RX4 9 "ScaleGroups$Points" "count" "I", Cond.fieldLink RX4 15 "ScaleGroups$Points" "xs" "[I"]
def wsL_law_r4 : List Cond := [Cond.fieldLink RX4 19 "ScaleGroups$Points" "ys" "[I", Cond.fieldLink RX4 22 "ScaleGroups$Points" "ws" "[I", Cond.methodLink RX8 24 yX5_init, Cond.instanceMethod yX5_init, Cond.code yX5_init cX5_init 1 none, Cond.methodLink RX5 3 objectInit, Cond.fieldLink RX5 9 "ScaleGroups$Scale" "count" "I", Cond.fieldLink RX5 15 "ScaleGroups$Scale" "sets" "[I", Cond.fieldLink RX5 19 "ScaleGroups$Scale" "weights" "[I", Cond.fieldLink RX5 22 "ScaleGroups$Scale" "xs" "[I", Cond.fieldLink RX5 25 "ScaleGroups$Scale" "ys" "[I", Cond.fieldLink RX5 28 "ScaleGroups$Scale" "groupAt" "[I", Cond.methodLink RX8 34 yX0_init, Cond.instanceMethod yX0_init, Cond.code yX0_init cX0_init 1 none, Cond.methodLink RX0 3 objectInit, Cond.fieldLink RX0 9 "ScaleGroups$Labels" "count" "I", Cond.fieldLink RX0 15 "ScaleGroups$Labels" "visible" "[I", Cond.fieldLink RX0 19 "ScaleGroups$Labels" "holders" "[I", Cond.methodLink RX8 41 yX3_init, Cond.instanceMethod yX3_init, Cond.code yX3_init cX3_init 1 none, Cond.methodLink RX3 3 objectInit, Cond.fieldLink RX3 9 "ScaleGroups$Outline" "count" "I"]
def wsL_law_r5 : List Cond := [Cond.fieldLink RX3 15 "ScaleGroups$Outline" "row" "[I", Cond.methodLink RX8 48 yX7_init, Cond.instanceMethod yX7_init, Cond.code yX7_init cX7_init 1 none, Cond.methodLink RX7 3 objectInit, Cond.classLink RX7 9 "[[I", Cond.fieldLink RX7 11 "ScaleGroups$Ways" "far" "[[I", Cond.methodLink RX8 55 yX1_init, Cond.instanceMethod yX1_init, Cond.code yX1_init cX1_init 1 none, Cond.methodLink RX1 3 objectInit, Cond.fieldLink RX1 9 "ScaleGroups$Lasting" "total" "I", Cond.fieldLink RX1 15 "ScaleGroups$Lasting" "count" "I", Cond.fieldLink RX1 18 "ScaleGroups$Lasting" "totals" "[I", Cond.arrayClass .boolean, Cond.fieldLink RX1 22 "ScaleGroups$Lasting" "open" "[Z", Cond.fieldLink RX1 26 "ScaleGroups$Lasting" "nodesByLeast" "[I", Cond.methodLink RL 12 yX9_init, Cond.instanceMethod yX9_init, Cond.code yX9_init cX9_init 1 none, Cond.methodLink RX9 1 objectInit, Cond.fieldLink RX9 7 "ScaleGroupsModel" "x" "[I", Cond.fieldLink RX9 13 "ScaleGroupsModel" "y" "[I", Cond.fieldLink RX9 16 "ScaleGroupsModel" "w" "[I"]
def wsL_law_r6 : List Cond := [Cond.fieldLink RX9 19 "ScaleGroupsModel" "size" "I", Cond.fieldLink RX9 23 "ScaleGroupsModel" "first" "[I", Cond.fieldLink RX9 26 "ScaleGroupsModel" "second" "[I", Cond.fieldLink RX9 29 "ScaleGroupsModel" "wide" "[I", Cond.fieldLink RX9 32 "ScaleGroupsModel" "madeSet" "[I", Cond.fieldLink RX9 35 "ScaleGroupsModel" "oneSide" "[I", Cond.fieldLink RX9 38 "ScaleGroupsModel" "otherSide" "[I", Cond.fieldLink RX9 41 "ScaleGroupsModel" "aboveJoin" "[I", Cond.fieldLink RX9 44 "ScaleGroupsModel" "abovePoint" "[I", Cond.fieldLink RX9 47 "ScaleGroupsModel" "nodeOf" "[I", Cond.fieldLink RX9 50 "ScaleGroupsModel" "setOf" "[I", Cond.fieldLink RX9 53 "ScaleGroupsModel" "wasPlace" "[I", Cond.fieldLink RX9 56 "ScaleGroupsModel" "wasOne" "[I", Cond.fieldLink RX9 59 "ScaleGroupsModel" "wasOther" "[I", Cond.fieldLink RX9 62 "ScaleGroupsModel" "wasWide" "[I", Cond.fieldLink RX9 65 "ScaleGroupsModel" "way" "[I", Cond.fieldLink RX9 68 "ScaleGroupsModel" "partOf" "[I", Cond.fieldLink RX9 71 "ScaleGroupsModel" "corner" "[I", Cond.fieldLink RX9 74 "ScaleGroupsModel" "ahead" "[I", Cond.fieldLink RX9 77 "ScaleGroupsModel" "bestNode" "[I", Cond.fieldLink RX9 80 "ScaleGroupsModel" "ranked" "[I", Cond.fieldLink RX9 83 "ScaleGroupsModel" "shown" "[I", Cond.fieldLink RX9 86 "ScaleGroupsModel" "asideOne" "[I", Cond.fieldLink RX9 89 "ScaleGroupsModel" "asideOther" "[I"]
def wsL_law_r7 : List Cond := [Cond.fieldLink RX9 92 "ScaleGroupsModel" "wasPart" "[I", Cond.methodLink RL 13 yX8_add, Cond.instanceMethod yX8_add, Cond.selects RX8 yX8_add yX8_add, Cond.code yX8_add cX8_add 4 (some .int), Cond.fieldLink RX8 75 "ScaleGroups$Order" "points" "LScaleGroups$Points;", Cond.methodLink RX8 71 yX8_isWeight, Cond.static yX8_isWeight, Cond.code yX8_isWeight cX8_isWeight 1 (some .boolean), Cond.methodLink RX8 79 yX4_canCome, Cond.instanceMethod yX4_canCome, Cond.selects RX4 yX4_canCome yX4_canCome, Cond.code yX4_canCome cX4_canCome 3 (some .boolean), Cond.methodLink RX4 25 yX4_find, Cond.instanceMethod yX4_find, Cond.selects RX4 yX4_find yX4_find, Cond.code yX4_find cX4_find 4 (some .int), Cond.methodLink RX8 85 yX8_startRepair, Cond.instanceMethod yX8_startRepair, Cond.selects RX8 yX8_startRepair yX8_startRepair, Cond.code yX8_startRepair cX8_startRepair 2 none, Cond.methodLink RX8 335 yX4_copy, Cond.instanceMethod yX4_copy, Cond.selects RX4 yX4_copy yX4_copy]
def wsL_law_r8 : List Cond := [Cond.code yX4_copy cX4_copy 3 none, Cond.methodLink RX8 88 yX4_put, Cond.instanceMethod yX4_put, Cond.selects RX4 yX4_put yX4_put, Cond.code yX4_put cX4_put 5 none, Cond.methodLink RX4 29 yX4_move, Cond.instanceMethod yX4_move, Cond.selects RX4 yX4_move yX4_move, Cond.code yX4_move cX4_move 3 none, Cond.methodLink RX8 92 yX2_rebuild, Cond.instanceMethod yX2_rebuild, Cond.selects RX2 yX2_rebuild yX2_rebuild, Cond.code yX2_rebuild cX2_rebuild 2 none, Cond.fieldLink RX2 66 "ScaleGroups$Points" "count" "I", Cond.methodLink RX2 63 yX2_growTree, Cond.instanceMethod yX2_growTree, Cond.selects RX2 yX2_growTree yX2_growTree, Cond.code yX2_growTree cX2_growTree 5 none, Cond.methodLink RX2 89 Lib.MathLoose.min_long.x, Cond.static Lib.MathLoose.min_long.x, Cond.initialized "java/lang/Math", Cond.code Lib.MathLoose.min_long.x Lib.MathLoose.min_long.code 4 (some .long), Cond.methodLink RX2 71 yX2_keyOf, Cond.instanceMethod yX2_keyOf]
def wsL_law_r9 : List Cond := [Cond.selects RX2 yX2_keyOf yX2_keyOf, Cond.code yX2_keyOf cX2_keyOf 3 (some .long), Cond.methodLink RX2 99 Lib.Math.min.name, Cond.static Lib.Math.min.name, Cond.code Lib.Math.min.name Lib.Math.min.code 2 (some .int), Cond.methodLink RX2 101 Lib.Math.max.name, Cond.static Lib.Math.max.name, Cond.code Lib.Math.max.name Lib.Math.max.code 2 (some .int), Cond.methodLink RX2 95 yX4_apart, Cond.instanceMethod yX4_apart, Cond.selects RX4 yX4_apart yX4_apart, Cond.code yX4_apart cX4_apart 3 (some .int), Cond.methodLink RX4 33 yX4_squares, Cond.instanceMethod yX4_squares, Cond.selects RX4 yX4_squares yX4_squares, Cond.code yX4_squares cX4_squares 6 (some .int), Cond.methodLink RX2 75 yX2_nextToGrow, Cond.instanceMethod yX2_nextToGrow, Cond.selects RX2 yX2_nextToGrow yX2_nextToGrow, Cond.code yX2_nextToGrow cX2_nextToGrow 4 (some .int), Cond.methodLink RX2 83 yX6_has, Cond.static yX6_has, Cond.initialized RX6, Cond.code yX6_has cX6_has 2 (some .boolean)]
def wsL_law_r10 : List Cond := [Cond.methodLink RX2 79 yX2_putKey, Cond.instanceMethod yX2_putKey, Cond.selects RX2 yX2_putKey yX2_putKey, Cond.code yX2_putKey cX2_putKey 4 none, Cond.methodLink RX2 67 yX2_makeJoin, Cond.instanceMethod yX2_makeJoin, Cond.selects RX2 yX2_makeJoin yX2_makeJoin, Cond.code yX2_makeJoin cX2_makeJoin 5 none, Cond.constantLong RX2 104 (31), Cond.methodLink RX2 106 yX6_root, Cond.static yX6_root, Cond.code yX6_root cX6_root 4 (some .int), Cond.methodLink RX2 109 yX2_placeOf, Cond.instanceMethod yX2_placeOf, Cond.selects RX2 yX2_placeOf yX2_placeOf, Cond.code yX2_placeOf cX2_placeOf 2 (some .long), Cond.fieldLink RX2 120 "ScaleGroups$Points" "xs" "[I", Cond.fieldLink RX2 123 "ScaleGroups$Points" "ys" "[I", Cond.methodLink RX2 113 yX2_setOf, Cond.instanceMethod yX2_setOf, Cond.selects RX2 yX2_setOf yX2_setOf, Cond.code yX2_setOf cX2_setOf 3 (some .int), Cond.methodLink RX2 126 yX2_joinOf, Cond.static yX2_joinOf]
def wsL_law_r11 : List Cond := [Cond.code yX2_joinOf cX2_joinOf 1 (some .int), Cond.methodLink RX2 116 yX2_putBelow, Cond.instanceMethod yX2_putBelow, Cond.selects RX2 yX2_putBelow yX2_putBelow, Cond.code yX2_putBelow cX2_putBelow 4 none, Cond.methodLink RX8 95 yX2_countUnlike, Cond.instanceMethod yX2_countUnlike, Cond.selects RX2 yX2_countUnlike yX2_countUnlike, Cond.code yX2_countUnlike cX2_countUnlike 4 (some .int), Cond.methodLink RX2 139 yX2_hasPair, Cond.instanceMethod yX2_hasPair, Cond.selects RX2 yX2_hasPair yX2_hasPair, Cond.code yX2_hasPair cX2_hasPair 4 (some .boolean), Cond.methodLink RL 17 yX9_add, Cond.instanceMethod yX9_add, Cond.selects RX9 yX9_add yX9_add, Cond.code yX9_add cX9_add 4 (some .int), Cond.fieldLink RX9 95 "ScaleGroupsModel" "told" "I", Cond.constantLong RX9 167 (99), Cond.methodLink RX9 164 yX9_canCome, Cond.instanceMethod yX9_canCome, Cond.selects RX9 yX9_canCome yX9_canCome, Cond.code yX9_canCome cX9_canCome 3 (some .boolean), Cond.fieldLink RX9 98 "ScaleGroupsModel" "n" "I"]
def wsL_law_r12 : List Cond := [Cond.constantLong RX9 159 (1023), Cond.methodLink RX9 101 yX9_isIn, Cond.instanceMethod yX9_isIn, Cond.selects RX9 yX9_isIn yX9_isIn, Cond.code yX9_isIn cX9_isIn 7 (some .boolean), Cond.methodLink RX9 161 yX9_pointAt, Cond.instanceMethod yX9_pointAt, Cond.selects RX9 yX9_pointAt yX9_pointAt, Cond.code yX9_pointAt cX9_pointAt 4 (some .int), Cond.methodLink RX9 169 yX9_keeps, Cond.instanceMethod yX9_keeps, Cond.selects RX9 yX9_keeps yX9_keeps, Cond.code yX9_keeps cX9_keeps 2 none, Cond.fieldLink RX9 138 "ScaleGroupsModel" "wasMany" "I", Cond.fieldLink RX9 145 "ScaleGroupsModel" "isRepaired" "Z", Cond.methodLink RX9 141 yX9_placeOf, Cond.instanceMethod yX9_placeOf, Cond.selects RX9 yX9_placeOf yX9_placeOf, Cond.code yX9_placeOf cX9_placeOf 2 (some .int), Cond.methodLink RX9 119 yX9_joins, Cond.instanceMethod yX9_joins, Cond.selects RX9 yX9_joins yX9_joins, Cond.code yX9_joins cX9_joins 1 (some .int), Cond.methodLink RX9 172 yX9_comes]
def wsL_law_r13 : List Cond := [Cond.instanceMethod yX9_comes, Cond.selects RX9 yX9_comes yX9_comes, Cond.code yX9_comes cX9_comes 5 none, Cond.methodLink RX9 176 yX9_laysTree, Cond.instanceMethod yX9_laysTree, Cond.selects RX9 yX9_laysTree yX9_laysTree, Cond.code yX9_laysTree cX9_laysTree 7 none, Cond.methodLink RX9 111 Lib.Math.min.name, Cond.methodLink RX9 116 Lib.Math.max.name, Cond.methodLink RX9 123 yX9_has, Cond.instanceMethod yX9_has, Cond.selects RX9 yX9_has yX9_has, Cond.code yX9_has cX9_has 3 (some .boolean), Cond.methodLink RX9 127 yX9_isSooner, Cond.instanceMethod yX9_isSooner, Cond.selects RX9 yX9_isSooner yX9_isSooner, Cond.code yX9_isSooner cX9_isSooner 7 (some .boolean), Cond.methodLink RX9 107 yX9_apart, Cond.instanceMethod yX9_apart, Cond.selects RX9 yX9_apart yX9_apart, Cond.code yX9_apart cX9_apart 3 (some .int), Cond.methodLink RX9 131 yX9_laysSides, Cond.instanceMethod yX9_laysSides, Cond.selects RX9 yX9_laysSides yX9_laysSides]
def wsL_law_r14 : List Cond := [Cond.code yX9_laysSides cX9_laysSides 3 none, Cond.methodLink RX9 134 yX9_puts, Cond.instanceMethod yX9_puts, Cond.selects RX9 yX9_puts yX9_puts, Cond.code yX9_puts cX9_puts 3 none, Cond.methodLink RX9 179 yX9_newOnes, Cond.instanceMethod yX9_newOnes, Cond.selects RX9 yX9_newOnes yX9_newOnes, Cond.code yX9_newOnes cX9_newOnes 3 (some .int), Cond.methodLink RX9 155 yX9_isNew, Cond.instanceMethod yX9_isNew, Cond.selects RX9 yX9_isNew yX9_isNew, Cond.code yX9_isNew cX9_isNew 3 (some .boolean), Cond.methodLink RX9 149 yX9_wasJoins, Cond.instanceMethod yX9_wasJoins, Cond.selects RX9 yX9_wasJoins yX9_wasJoins, Cond.code yX9_wasJoins cX9_wasJoins 1 (some .int), Cond.methodLink RX9 152 yX9_areSame, Cond.instanceMethod yX9_areSame, Cond.selects RX9 yX9_areSame yX9_areSame, Cond.code yX9_areSame cX9_areSame 5 (some .boolean), Cond.methodLink RL 18 yX8_take, Cond.instanceMethod yX8_take, Cond.selects RX8 yX8_take yX8_take]
def wsL_law_r15 : List Cond := [Cond.code yX8_take cX8_take 2 (some .int), Cond.methodLink RX8 99 yX8_isPoint, Cond.instanceMethod yX8_isPoint, Cond.selects RX8 yX8_isPoint yX8_isPoint, Cond.code yX8_isPoint cX8_isPoint 2 (some .boolean), Cond.fieldLink RX8 113 "ScaleGroups$Points" "count" "I", Cond.methodLink RX8 102 yX4_drop, Cond.instanceMethod yX4_drop, Cond.selects RX4 yX4_drop yX4_drop, Cond.code yX4_drop cX4_drop 3 none, Cond.methodLink RL 22 yX9_take, Cond.instanceMethod yX9_take, Cond.selects RX9 yX9_take yX9_take, Cond.code yX9_take cX9_take 2 (some .int), Cond.methodLink RX9 182 yX9_isPoint, Cond.instanceMethod yX9_isPoint, Cond.selects RX9 yX9_isPoint yX9_isPoint, Cond.code yX9_isPoint cX9_isPoint 2 (some .boolean), Cond.methodLink RX9 185 yX9_goes, Cond.instanceMethod yX9_goes, Cond.selects RX9 yX9_goes yX9_goes, Cond.code yX9_goes cX9_goes 3 none, Cond.methodLink RL 23 yX8_weigh, Cond.instanceMethod yX8_weigh]
def wsL_law_r16 : List Cond := [Cond.selects RX8 yX8_weigh yX8_weigh, Cond.code yX8_weigh cX8_weigh 4 (some .int), Cond.fieldLink RX8 106 "ScaleGroups$Points" "ws" "[I", Cond.methodLink RL 27 yX9_weigh, Cond.instanceMethod yX9_weigh, Cond.selects RX9 yX9_weigh yX9_weigh, Cond.code yX9_weigh cX9_weigh 4 (some .int), Cond.methodLink RL 28 yX8_scatter, Cond.instanceMethod yX8_scatter, Cond.selects RX8 yX8_scatter yX8_scatter, Cond.code yX8_scatter cX8_scatter 7 (some .int), Cond.methodLink RX8 109 yX8_draw, Cond.instanceMethod yX8_draw, Cond.selects RX8 yX8_draw yX8_draw, Cond.code yX8_draw cX8_draw 2 (some .int), Cond.constant RX8 351 (1664525), Cond.constant RX8 352 (1013904223), Cond.methodLink RL 31 yX9_scatter, Cond.instanceMethod yX9_scatter, Cond.selects RX9 yX9_scatter yX9_scatter, Cond.code yX9_scatter cX9_scatter 7 (some .int), Cond.constantLong RX9 194 (24), Cond.methodLink RX9 196 yX9_draw, Cond.instanceMethod yX9_draw]
def wsL_law_r17 : List Cond := [Cond.selects RX9 yX9_draw yX9_draw, Cond.code yX9_draw cX9_draw 2 (some .int), Cond.constant RX9 189 (1664525), Cond.fieldLink RX9 190 "ScaleGroupsModel" "state" "I", Cond.constant RX9 193 (1013904223), Cond.methodLink RL 32 yX8_state, Cond.instanceMethod yX8_state, Cond.selects RX8 yX8_state yX8_state, Cond.code yX8_state cX8_state 3 (some .int), Cond.methodLink RL 35 yX9_state, Cond.instanceMethod yX9_state, Cond.selects RX9 yX9_state yX9_state, Cond.code yX9_state cX9_state 3 (some .int), Cond.methodLink RL 36 yX8_clear, Cond.instanceMethod yX8_clear, Cond.selects RX8 yX8_clear yX8_clear, Cond.code yX8_clear cX8_clear 2 (some .int), Cond.methodLink RL 40 yX9_clear, Cond.instanceMethod yX9_clear, Cond.selects RX9 yX9_clear yX9_clear, Cond.code yX9_clear cX9_clear 2 (some .int), Cond.methodLink RL 41 yX8_size, Cond.instanceMethod yX8_size, Cond.selects RX8 yX8_size yX8_size]
def wsL_law_r18 : List Cond := [Cond.code yX8_size cX8_size 3 (some .int), Cond.methodLink RL 44 yX9_size, Cond.instanceMethod yX9_size, Cond.selects RX9 yX9_size yX9_size, Cond.code yX9_size cX9_size 3 (some .int), Cond.constantLong RX9 199 (999), Cond.methodLink RL 45 yX8_point, Cond.instanceMethod yX8_point, Cond.selects RX8 yX8_point yX8_point, Cond.code yX8_point cX8_point 4 (some .int), Cond.fieldLink RX8 116 "ScaleGroups$Points" "xs" "[I", Cond.fieldLink RX8 119 "ScaleGroups$Points" "ys" "[I", Cond.methodLink RX8 122 yX4_nearestTo, Cond.instanceMethod yX4_nearestTo, Cond.selects RX4 yX4_nearestTo yX4_nearestTo, Cond.code yX4_nearestTo cX4_nearestTo 5 (some .int), Cond.methodLink RX4 37 yX4_apart, Cond.methodLink RX8 125 yX4_apartFromNearest, Cond.instanceMethod yX4_apartFromNearest, Cond.selects RX4 yX4_apartFromNearest yX4_apartFromNearest, Cond.code yX4_apartFromNearest cX4_apartFromNearest 3 (some .int), Cond.methodLink RX4 40 yX4_nearestTo, Cond.methodLink RX8 128 yX2_linksOf, Cond.instanceMethod yX2_linksOf]
def wsL_law_r19 : List Cond := [Cond.selects RX2 yX2_linksOf yX2_linksOf, Cond.code yX2_linksOf cX2_linksOf 4 (some .int), Cond.methodLink RL 48 yX9_point, Cond.instanceMethod yX9_point, Cond.selects RX9 yX9_point yX9_point, Cond.code yX9_point cX9_point 4 (some .int), Cond.methodLink RX9 201 yX9_linksOf, Cond.instanceMethod yX9_linksOf, Cond.selects RX9 yX9_linksOf yX9_linksOf, Cond.code yX9_linksOf cX9_linksOf 4 (some .int), Cond.methodLink RX9 204 yX9_nearestOf, Cond.instanceMethod yX9_nearestOf, Cond.selects RX9 yX9_nearestOf yX9_nearestOf, Cond.code yX9_nearestOf cX9_nearestOf 4 (some .int), Cond.methodLink RL 49 yX8_at, Cond.instanceMethod yX8_at, Cond.selects RX8 yX8_at yX8_at, Cond.code yX8_at cX8_at 3 (some .int), Cond.methodLink RX8 131 yX4_find, Cond.methodLink RL 52 yX9_at, Cond.instanceMethod yX9_at, Cond.selects RX9 yX9_at yX9_at, Cond.code yX9_at cX9_at 3 (some .int), Cond.methodLink RL 53 yX8_near]
def wsL_law_r20 : List Cond := [Cond.instanceMethod yX8_near, Cond.selects RX8 yX8_near yX8_near, Cond.code yX8_near cX8_near 6 (some .int), Cond.methodLink RX8 135 yX8_isNearPlace, Cond.static yX8_isNearPlace, Cond.code yX8_isNearPlace cX8_isNearPlace 1 (some .boolean), Cond.methodLink RX8 138 yX4_squares, Cond.methodLink RX8 142 yX8_rankInRow, Cond.instanceMethod yX8_rankInRow, Cond.selects RX8 yX8_rankInRow yX8_rankInRow, Cond.code yX8_rankInRow cX8_rankInRow 5 (some .int), Cond.methodLink RL 56 yX9_near, Cond.instanceMethod yX9_near, Cond.selects RX9 yX9_near yX9_near, Cond.code yX9_near cX9_near 9 (some .int), Cond.constantLong RX9 207 (-9999), Cond.constantLong RX9 209 (9999), Cond.methodLink RX9 211 yX9_farFrom, Cond.instanceMethod yX9_farFrom, Cond.selects RX9 yX9_farFrom yX9_farFrom, Cond.code yX9_farFrom cX9_farFrom 4 (some .int), Cond.methodLink RL 57 yX8_join, Cond.instanceMethod yX8_join, Cond.selects RX8 yX8_join yX8_join]
def wsL_law_r21 : List Cond := [Cond.code yX8_join cX8_join 3 (some .int), Cond.fieldLink RX8 145 "ScaleGroups$Order" "count" "I", Cond.fieldLink RX8 146 "ScaleGroups$Order" "aparts" "[I", Cond.fieldLink RX8 149 "ScaleGroups$Order" "firsts" "[I", Cond.fieldLink RX8 152 "ScaleGroups$Order" "seconds" "[I", Cond.fieldLink RX8 155 "ScaleGroups$Order" "parts" "[I", Cond.fieldLink RX8 166 "ScaleGroups$Order" "firstSides" "[I", Cond.fieldLink RX8 169 "ScaleGroups$Order" "otherSides" "[I", Cond.fieldLink RX8 172 "ScaleGroups$Order" "joinsAbove" "[I", Cond.fieldLink RX8 178 "ScaleGroups$Order" "pairs" "[J", Cond.methodLink RX8 158 yJ6_bitCount_0f7a4, Cond.static yJ6_bitCount_0f7a4, Cond.initialized RJ6, Cond.code yJ6_bitCount_0f7a4 cJ6_bitCount_0f7a4 1 (some .int), Cond.constant RJ6 265 (1431655765), Cond.constant RJ6 266 (858993459), Cond.constant RJ6 267 (252645135), Cond.methodLink RX8 163 yX4_weightOf, Cond.instanceMethod yX4_weightOf, Cond.selects RX4 yX4_weightOf yX4_weightOf, Cond.code yX4_weightOf cX4_weightOf 4 (some .int), Cond.methodLink RX4 44 yX6_has, Cond.methodLink RX8 175 yX2_lastsOf, Cond.instanceMethod yX2_lastsOf]
def wsL_law_r22 : List Cond := [Cond.selects RX2 yX2_lastsOf yX2_lastsOf, Cond.code yX2_lastsOf cX2_lastsOf 3 (some .int), Cond.methodLink RX2 129 yX2_weightTill, Cond.instanceMethod yX2_weightTill, Cond.selects RX2 yX2_weightTill yX2_weightTill, Cond.code yX2_weightTill cX2_weightTill 4 (some .int), Cond.methodLink RX2 133 yX4_weightOf, Cond.methodLink RX8 182 yX2_hasPair, Cond.methodLink RL 60 yX9_join, Cond.instanceMethod yX9_join, Cond.selects RX9 yX9_join yX9_join, Cond.code yX9_join cX9_join 3 (some .int), Cond.methodLink RX9 221 yX9_isJoin, Cond.instanceMethod yX9_isJoin, Cond.selects RX9 yX9_isJoin yX9_isJoin, Cond.code yX9_isJoin cX9_isJoin 2 (some .boolean), Cond.methodLink RX9 224 yX9_bits, Cond.instanceMethod yX9_bits, Cond.selects RX9 yX9_bits yX9_bits, Cond.code yX9_bits cX9_bits 4 (some .int), Cond.methodLink RX9 215 yX9_weightOf, Cond.instanceMethod yX9_weightOf, Cond.selects RX9 yX9_weightOf yX9_weightOf, Cond.code yX9_weightOf cX9_weightOf 4 (some .int)]
def wsL_law_r23 : List Cond := [Cond.methodLink RX9 227 yX9_lasts, Cond.instanceMethod yX9_lasts, Cond.selects RX9 yX9_lasts yX9_lasts, Cond.code yX9_lasts cX9_lasts 4 (some .int), Cond.methodLink RX9 218 yX9_root, Cond.instanceMethod yX9_root, Cond.selects RX9 yX9_root yX9_root, Cond.code yX9_root cX9_root 3 (some .int), Cond.methodLink RL 61 yX8_meets, Cond.instanceMethod yX8_meets, Cond.selects RX8 yX8_meets yX8_meets, Cond.code yX8_meets cX8_meets 3 (some .int), Cond.methodLink RX8 186 yX2_meeting, Cond.instanceMethod yX2_meeting, Cond.selects RX2 yX2_meeting yX2_meeting, Cond.code yX2_meeting cX2_meeting 4 (some .int), Cond.methodLink RL 64 yX9_meets, Cond.instanceMethod yX9_meets, Cond.selects RX9 yX9_meets yX9_meets, Cond.code yX9_meets cX9_meets 4 (some .int), Cond.methodLink RL 65 yX8_path, Cond.instanceMethod yX8_path, Cond.selects RX8 yX8_path yX8_path, Cond.code yX8_path cX8_path 6 (some .int)]
def wsL_law_r24 : List Cond := [Cond.fieldLink RX8 193 "ScaleGroups$Ways" "far" "[[I", Cond.methodLink RX8 189 yX7_measure, Cond.instanceMethod yX7_measure, Cond.selects RX7 yX7_measure yX7_measure, Cond.code yX7_measure cX7_measure 4 none, Cond.fieldLink RX7 16 "ScaleGroups$Order" "points" "LScaleGroups$Points;", Cond.fieldLink RX7 22 "ScaleGroups$Points" "count" "I", Cond.fieldLink RX7 28 "ScaleGroups$Order" "count" "I", Cond.fieldLink RX7 29 "ScaleGroups$Order" "roots" "[I", Cond.methodLink RX7 33 yX7_link, Cond.instanceMethod yX7_link, Cond.selects RX7 yX7_link yX7_link, Cond.code yX7_link cX7_link 10 none, Cond.fieldLink RX7 37 "ScaleGroups$Order" "firstSides" "[I", Cond.fieldLink RX7 44 "ScaleGroups$Order" "otherSides" "[I", Cond.fieldLink RX7 47 "ScaleGroups$Order" "firsts" "[I", Cond.fieldLink RX7 50 "ScaleGroups$Order" "seconds" "[I", Cond.methodLink RX7 40 yX2_setOf, Cond.methodLink RX7 53 yX6_has, Cond.methodLink RL 68 yX9_path, Cond.instanceMethod yX9_path, Cond.selects RX9 yX9_path yX9_path, Cond.code yX9_path cX9_path 4 (some .int), Cond.fieldLink RX9 230 "ScaleGroupsModel" "wayLong" "I"]
def wsL_law_r25 : List Cond := [Cond.methodLink RX9 233 yX9_goesAlong, Cond.instanceMethod yX9_goesAlong, Cond.selects RX9 yX9_goesAlong yX9_goesAlong, Cond.code yX9_goesAlong cX9_goesAlong 6 (some .boolean), Cond.methodLink RL 69 yX8_longest, Cond.instanceMethod yX8_longest, Cond.selects RX8 yX8_longest yX8_longest, Cond.code yX8_longest cX8_longest 8 (some .int), Cond.methodLink RL 72 yX9_longest, Cond.instanceMethod yX9_longest, Cond.selects RX9 yX9_longest yX9_longest, Cond.code yX9_longest cX9_longest 8 (some .int), Cond.constantLong RX9 237 (2), Cond.methodLink RX9 239 yX9_rootsAlong, Cond.instanceMethod yX9_rootsAlong, Cond.selects RX9 yX9_rootsAlong yX9_rootsAlong, Cond.code yX9_rootsAlong cX9_rootsAlong 5 (some .int), Cond.methodLink RL 73 yX8_zoom, Cond.instanceMethod yX8_zoom, Cond.selects RX8 yX8_zoom yX8_zoom, Cond.code yX8_zoom cX8_zoom 5 (some .int), Cond.methodLink RX8 197 yX8_meets, Cond.methodLink RX8 200 yX2_joinsWithin, Cond.instanceMethod yX2_joinsWithin]
def wsL_law_r26 : List Cond := [Cond.selects RX2 yX2_joinsWithin yX2_joinsWithin, Cond.code yX2_joinsWithin cX2_joinsWithin 4 (some .int), Cond.methodLink RL 76 yX9_zoom, Cond.instanceMethod yX9_zoom, Cond.selects RX9 yX9_zoom yX9_zoom, Cond.code yX9_zoom cX9_zoom 4 (some .int), Cond.methodLink RX9 260 yX9_laysZoom, Cond.instanceMethod yX9_laysZoom, Cond.selects RX9 yX9_laysZoom yX9_laysZoom, Cond.code yX9_laysZoom cX9_laysZoom 2 none, Cond.methodLink RX9 245 yX9_joinsOf, Cond.instanceMethod yX9_joinsOf, Cond.selects RX9 yX9_joinsOf yX9_joinsOf, Cond.code yX9_joinsOf cX9_joinsOf 3 (some .int), Cond.methodLink RX9 242 yX9_radius, Cond.instanceMethod yX9_radius, Cond.selects RX9 yX9_radius yX9_radius, Cond.code yX9_radius cX9_radius 2 (some .int), Cond.methodLink RX9 248 yX9_laysParts, Cond.instanceMethod yX9_laysParts, Cond.selects RX9 yX9_laysParts yX9_laysParts, Cond.code yX9_laysParts cX9_laysParts 4 none, Cond.methodLink RL 77 yX8_groups, Cond.instanceMethod yX8_groups]
def wsL_law_r27 : List Cond := [Cond.selects RX8 yX8_groups yX8_groups, Cond.code yX8_groups cX8_groups 2 (some .int), Cond.methodLink RX8 203 yX8_isZoom, Cond.static yX8_isZoom, Cond.code yX8_isZoom cX8_isZoom 1 (some .boolean), Cond.methodLink RL 80 yX9_groups, Cond.instanceMethod yX9_groups, Cond.selects RX9 yX9_groups yX9_groups, Cond.code yX9_groups cX9_groups 2 (some .int), Cond.methodLink RX9 257 yX9_isZoom, Cond.instanceMethod yX9_isZoom, Cond.selects RX9 yX9_isZoom yX9_isZoom, Cond.code yX9_isZoom cX9_isZoom 2 (some .boolean), Cond.constantLong RX9 105 (10), Cond.methodLink RX9 263 yX9_partsNow, Cond.instanceMethod yX9_partsNow, Cond.selects RX9 yX9_partsNow yX9_partsNow, Cond.code yX9_partsNow cX9_partsNow 3 (some .int), Cond.methodLink RX9 254 yX9_isFirst, Cond.instanceMethod yX9_isFirst, Cond.selects RX9 yX9_isFirst yX9_isFirst, Cond.code yX9_isFirst cX9_isFirst 2 (some .boolean), Cond.methodLink RX9 251 yX9_least, Cond.instanceMethod yX9_least]
def wsL_law_r28 : List Cond := [Cond.selects RX9 yX9_least yX9_least, Cond.code yX9_least cX9_least 3 (some .int), Cond.methodLink RL 81 yX8_groupOf, Cond.instanceMethod yX8_groupOf, Cond.selects RX8 yX8_groupOf yX8_groupOf, Cond.code yX8_groupOf cX8_groupOf 3 (some .int), Cond.fieldLink RX8 210 "ScaleGroups$Scale" "groupAt" "[I", Cond.methodLink RX8 206 yX5_cut, Cond.instanceMethod yX5_cut, Cond.selects RX5 yX5_cut yX5_cut, Cond.code yX5_cut cX5_cut 6 none, Cond.fieldLink RX5 37 "ScaleGroups$Order" "points" "LScaleGroups$Points;", Cond.fieldLink RX5 41 "ScaleGroups$Points" "count" "I", Cond.methodLink RX5 31 yX2_joinsWithin, Cond.methodLink RX5 44 yX6_has, Cond.methodLink RX5 50 yX2_partOf, Cond.instanceMethod yX2_partOf, Cond.selects RX2 yX2_partOf yX2_partOf, Cond.code yX2_partOf cX2_partOf 4 (some .int), Cond.methodLink RX5 54 yX5_gather, Cond.instanceMethod yX5_gather, Cond.selects RX5 yX5_gather yX5_gather, Cond.code yX5_gather cX5_gather 7 none, Cond.fieldLink RX5 58 "ScaleGroups$Points" "ws" "[I"]
def wsL_law_r29 : List Cond := [Cond.fieldLink RX5 61 "ScaleGroups$Points" "xs" "[I", Cond.fieldLink RX5 62 "ScaleGroups$Points" "ys" "[I", Cond.methodLink RL 84 yX9_groupOf, Cond.instanceMethod yX9_groupOf, Cond.selects RX9 yX9_groupOf yX9_groupOf, Cond.code yX9_groupOf cX9_groupOf 3 (some .int), Cond.methodLink RX9 266 yX9_numberOf, Cond.instanceMethod yX9_numberOf, Cond.selects RX9 yX9_numberOf yX9_numberOf, Cond.code yX9_numberOf cX9_numberOf 4 (some .int), Cond.methodLink RL 85 yX8_group, Cond.instanceMethod yX8_group, Cond.selects RX8 yX8_group yX8_group, Cond.code yX8_group cX8_group 6 (some .int), Cond.fieldLink RX8 216 "ScaleGroups$Scale" "sets" "[I", Cond.fieldLink RX8 224 "ScaleGroups$Scale" "weights" "[I", Cond.fieldLink RX8 234 "ScaleGroups$Scale" "xs" "[I", Cond.fieldLink RX8 235 "ScaleGroups$Scale" "ys" "[I", Cond.methodLink RX8 213 yX8_cutsGroup, Cond.instanceMethod yX8_cutsGroup, Cond.selects RX8 yX8_cutsGroup yX8_cutsGroup, Cond.code yX8_cutsGroup cX8_cutsGroup 3 (some .boolean), Cond.fieldLink RX8 283 "ScaleGroups$Scale" "count" "I", Cond.methodLink RX8 219 yX6_least]
def wsL_law_r30 : List Cond := [Cond.static yX6_least, Cond.code yX6_least cX6_least 1 (some .int), Cond.methodLink RX6 9 yX6_nth, Cond.static yX6_nth, Cond.code yX6_nth cX6_nth 4 (some .int), Cond.methodLink RX6 15 yX6_has, Cond.methodLink RX8 227 yX6_lowest, Cond.static yX6_lowest, Cond.code yX6_lowest cX6_lowest 4 (some .int), Cond.methodLink RX6 19 Lib.Math.min.name, Cond.methodLink RX8 231 yX6_highest, Cond.static yX6_highest, Cond.code yX6_highest cX6_highest 4 (some .int), Cond.methodLink RX6 24 Lib.Math.max.name, Cond.methodLink RX8 236 yX4_heaviestOf, Cond.instanceMethod yX4_heaviestOf, Cond.selects RX4 yX4_heaviestOf yX4_heaviestOf, Cond.code yX4_heaviestOf cX4_heaviestOf 5 (some .int), Cond.methodLink RX8 239 yX2_makerOf, Cond.instanceMethod yX2_makerOf, Cond.selects RX2 yX2_makerOf yX2_makerOf, Cond.code yX2_makerOf cX2_makerOf 3 (some .int), Cond.methodLink RX8 242 yX8_countSplits, Cond.instanceMethod yX8_countSplits]
def wsL_law_r31 : List Cond := [Cond.selects RX8 yX8_countSplits yX8_countSplits, Cond.code yX8_countSplits cX8_countSplits 3 (some .int), Cond.methodLink RX8 251 yX5_groupsWithin, Cond.instanceMethod yX5_groupsWithin, Cond.selects RX5 yX5_groupsWithin yX5_groupsWithin, Cond.code yX5_groupsWithin cX5_groupsWithin 4 (some .int), Cond.methodLink RX8 245 yX4_wide, Cond.instanceMethod yX4_wide, Cond.selects RX4 yX4_wide yX4_wide, Cond.code yX4_wide cX4_wide 5 (some .int), Cond.methodLink RX4 50 Lib.Math.max.name, Cond.methodLink RL 88 yX9_group, Cond.instanceMethod yX9_group, Cond.selects RX9 yX9_group yX9_group, Cond.code yX9_group cX9_group 5 (some .int), Cond.methodLink RX9 269 yX9_groupSet, Cond.instanceMethod yX9_groupSet, Cond.selects RX9 yX9_groupSet yX9_groupSet, Cond.code yX9_groupSet cX9_groupSet 5 (some .int), Cond.methodLink RX9 272 yX9_bound, Cond.instanceMethod yX9_bound, Cond.selects RX9 yX9_bound yX9_bound, Cond.code yX9_bound cX9_bound 7 (some .int), Cond.methodLink RX9 276 yX9_centre]
def wsL_law_r32 : List Cond := [Cond.instanceMethod yX9_centre, Cond.selects RX9 yX9_centre yX9_centre, Cond.code yX9_centre cX9_centre 5 (some .int), Cond.methodLink RX9 280 yX9_topOf, Cond.instanceMethod yX9_topOf, Cond.selects RX9 yX9_topOf yX9_topOf, Cond.code yX9_topOf cX9_topOf 4 (some .int), Cond.methodLink RX9 283 yX9_makerOf, Cond.instanceMethod yX9_makerOf, Cond.selects RX9 yX9_makerOf yX9_makerOf, Cond.code yX9_makerOf cX9_makerOf 3 (some .int), Cond.methodLink RX9 286 yX9_splitsInto, Cond.instanceMethod yX9_splitsInto, Cond.selects RX9 yX9_splitsInto yX9_splitsInto, Cond.code yX9_splitsInto cX9_splitsInto 5 (some .int), Cond.methodLink RX9 289 yX9_widest, Cond.instanceMethod yX9_widest, Cond.selects RX9 yX9_widest yX9_widest, Cond.code yX9_widest cX9_widest 5 (some .int), Cond.methodLink RL 89 yX8_member, Cond.instanceMethod yX8_member, Cond.selects RX8 yX8_member yX8_member, Cond.code yX8_member cX8_member 4 (some .int), Cond.methodLink RX8 248 yX6_nth]
def wsL_law_r33 : List Cond := [Cond.methodLink RL 92 yX9_member, Cond.instanceMethod yX9_member, Cond.selects RX9 yX9_member yX9_member, Cond.code yX9_member cX9_member 7 (some .int), Cond.methodLink RL 93 yX8_splits, Cond.instanceMethod yX8_splits, Cond.selects RX8 yX8_splits yX8_splits, Cond.code yX8_splits cX8_splits 4 (some .int), Cond.methodLink RL 96 yX9_splits, Cond.instanceMethod yX9_splits, Cond.selects RX9 yX9_splits yX9_splits, Cond.code yX9_splits cX9_splits 7 (some .int), Cond.methodLink RL 97 yX8_window, Cond.instanceMethod yX8_window, Cond.selects RX8 yX8_window yX8_window, Cond.code yX8_window cX8_window 9 (some .int), Cond.methodLink RX8 254 yX5_centresIn, Cond.instanceMethod yX5_centresIn, Cond.selects RX5 yX5_centresIn yX5_centresIn, Cond.code yX5_centresIn cX5_centresIn 7 (some .int), Cond.methodLink RX8 258 yX4_within, Cond.instanceMethod yX4_within, Cond.selects RX4 yX4_within yX4_within, Cond.code yX4_within cX4_within 7 (some .int)]
def wsL_law_r34 : List Cond := [Cond.methodLink RX8 261 yX5_weightOf, Cond.instanceMethod yX5_weightOf, Cond.selects RX5 yX5_weightOf yX5_weightOf, Cond.code yX5_weightOf cX5_weightOf 4 (some .int), Cond.methodLink RL 101 yX9_window, Cond.instanceMethod yX9_window, Cond.selects RX9 yX9_window yX9_window, Cond.code yX9_window cX9_window 8 (some .int), Cond.constantLong RX9 300 (3), Cond.methodLink RX9 302 yX9_centredIn, Cond.instanceMethod yX9_centredIn, Cond.selects RX9 yX9_centredIn yX9_centredIn, Cond.code yX9_centredIn cX9_centredIn 8 (some .int), Cond.methodLink RX9 296 yX9_isCentred, Cond.instanceMethod yX9_isCentred, Cond.selects RX9 yX9_isCentred yX9_isCentred, Cond.code yX9_isCentred cX9_isCentred 6 (some .boolean), Cond.methodLink RX9 292 yX9_isWithin, Cond.instanceMethod yX9_isWithin, Cond.selects RX9 yX9_isWithin yX9_isWithin, Cond.code yX9_isWithin cX9_isWithin 7 (some .boolean), Cond.methodLink RX9 306 yX9_pointsIn, Cond.instanceMethod yX9_pointsIn, Cond.selects RX9 yX9_pointsIn yX9_pointsIn]
def wsL_law_r35 : List Cond := [Cond.code yX9_pointsIn cX9_pointsIn 7 (some .int), Cond.methodLink RL 102 yX8_top, Cond.instanceMethod yX8_top, Cond.selects RX8 yX8_top yX8_top, Cond.code yX8_top cX8_top 7 (some .int), Cond.methodLink RX8 262 yX5_heaviest, Cond.instanceMethod yX5_heaviest, Cond.selects RX5 yX5_heaviest yX5_heaviest, Cond.code yX5_heaviest cX5_heaviest 4 (some .int), Cond.methodLink RX5 63 yX5_countAhead, Cond.instanceMethod yX5_countAhead, Cond.selects RX5 yX5_countAhead yX5_countAhead, Cond.code yX5_countAhead cX5_countAhead 6 (some .int), Cond.methodLink RL 105 yX9_top, Cond.instanceMethod yX9_top, Cond.selects RX9 yX9_top yX9_top, Cond.code yX9_top cX9_top 12 (some .int), Cond.methodLink RL 106 yX8_filled, Cond.instanceMethod yX8_filled, Cond.selects RX8 yX8_filled yX8_filled, Cond.code yX8_filled cX8_filled 7 (some .int), Cond.methodLink RX8 265 yX8_nextInRow, Cond.instanceMethod yX8_nextInRow, Cond.selects RX8 yX8_nextInRow yX8_nextInRow]
def wsL_law_r36 : List Cond := [Cond.code yX8_nextInRow cX8_nextInRow 5 (some .int), Cond.methodLink RL 109 yX9_filled, Cond.instanceMethod yX9_filled, Cond.selects RX9 yX9_filled yX9_filled, Cond.code yX9_filled cX9_filled 8 (some .int), Cond.methodLink RL 110 yX8_densest, Cond.instanceMethod yX8_densest, Cond.selects RX8 yX8_densest yX8_densest, Cond.code yX8_densest cX8_densest 14 (some .int), Cond.methodLink RL 113 yX9_densest, Cond.instanceMethod yX9_densest, Cond.selects RX9 yX9_densest yX9_densest, Cond.code yX9_densest cX9_densest 10 (some .int), Cond.methodLink RL 114 yX8_cover, Cond.instanceMethod yX8_cover, Cond.selects RX8 yX8_cover yX8_cover, Cond.code yX8_cover cX8_cover 6 (some .int), Cond.methodLink RX8 268 yX6_has, Cond.methodLink RX8 271 yX8_widestTile, Cond.instanceMethod yX8_widestTile, Cond.selects RX8 yX8_widestTile yX8_widestTile, Cond.code yX8_widestTile cX8_widestTile 7 (some .int), Cond.methodLink RX8 293 yX8_pointsInTile, Cond.instanceMethod yX8_pointsInTile]
def wsL_law_r37 : List Cond := [Cond.selects RX8 yX8_pointsInTile yX8_pointsInTile, Cond.code yX8_pointsInTile cX8_pointsInTile 7 (some .int), Cond.methodLink RL 117 yX9_cover, Cond.instanceMethod yX9_cover, Cond.selects RX9 yX9_cover yX9_cover, Cond.code yX9_cover cX9_cover 4 (some .int), Cond.methodLink RX9 313 yX9_tiles, Cond.instanceMethod yX9_tiles, Cond.selects RX9 yX9_tiles yX9_tiles, Cond.code yX9_tiles cX9_tiles 8 (some .int), Cond.methodLink RX9 310 yX9_tileSet, Cond.instanceMethod yX9_tileSet, Cond.selects RX9 yX9_tileSet yX9_tileSet, Cond.code yX9_tileSet cX9_tileSet 5 (some .int), Cond.methodLink RL 118 yX8_outline, Cond.instanceMethod yX8_outline, Cond.selects RX8 yX8_outline yX8_outline, Cond.code yX8_outline cX8_outline 4 (some .int), Cond.fieldLink RX8 277 "ScaleGroups$Outline" "count" "I", Cond.fieldLink RX8 278 "ScaleGroups$Outline" "row" "[I", Cond.methodLink RX8 274 yX3_draw, Cond.instanceMethod yX3_draw, Cond.selects RX3 yX3_draw yX3_draw, Cond.code yX3_draw cX3_draw 5 none]
def wsL_law_r38 : List Cond := [Cond.fieldLink RX3 19 "ScaleGroups$Points" "count" "I", Cond.methodLink RX3 22 yX6_has, Cond.methodLink RX3 28 yX3_turnTo, Cond.instanceMethod yX3_turnTo, Cond.selects RX3 yX3_turnTo yX3_turnTo, Cond.code yX3_turnTo cX3_turnTo 4 none, Cond.methodLink RX3 32 yX3_cross, Cond.static yX3_cross, Cond.code yX3_cross cX3_cross 4 (some .int), Cond.fieldLink RX3 36 "ScaleGroups$Points" "xs" "[I", Cond.fieldLink RX3 39 "ScaleGroups$Points" "ys" "[I", Cond.methodLink RL 121 yX9_outline, Cond.instanceMethod yX9_outline, Cond.selects RX9 yX9_outline yX9_outline, Cond.code yX9_outline cX9_outline 5 (some .int), Cond.fieldLink RX9 319 "ScaleGroupsModel" "corners" "I", Cond.methodLink RX9 325 yX9_laysOutline, Cond.instanceMethod yX9_laysOutline, Cond.selects RX9 yX9_laysOutline yX9_laysOutline, Cond.code yX9_laysOutline cX9_laysOutline 3 none, Cond.methodLink RX9 322 yX9_nextCorner, Cond.instanceMethod yX9_nextCorner, Cond.selects RX9 yX9_nextCorner yX9_nextCorner, Cond.code yX9_nextCorner cX9_nextCorner 6 (some .int)]
def wsL_law_r39 : List Cond := [Cond.methodLink RX9 316 yX9_turn, Cond.instanceMethod yX9_turn, Cond.selects RX9 yX9_turn yX9_turn, Cond.code yX9_turn cX9_turn 4 (some .int), Cond.methodLink RL 122 yX8_area, Cond.instanceMethod yX8_area, Cond.selects RX8 yX8_area yX8_area, Cond.code yX8_area cX8_area 3 (some .int), Cond.methodLink RX8 279 yX3_twiceArea, Cond.instanceMethod yX3_twiceArea, Cond.selects RX3 yX3_twiceArea yX3_twiceArea, Cond.code yX3_twiceArea cX3_twiceArea 6 (some .int), Cond.methodLink RL 125 yX9_area, Cond.instanceMethod yX9_area, Cond.selects RX9 yX9_area yX9_area, Cond.code yX9_area cX9_area 6 (some .int), Cond.methodLink RL 126 yX8_drift, Cond.instanceMethod yX8_drift, Cond.selects RX8 yX8_drift yX8_drift, Cond.code yX8_drift cX8_drift 5 (some .int), Cond.methodLink RX8 284 yX5_groupOfPart, Cond.instanceMethod yX5_groupOfPart, Cond.selects RX5 yX5_groupOfPart yX5_groupOfPart, Cond.code yX5_groupOfPart cX5_groupOfPart 3 (some .int)]
def wsL_law_r40 : List Cond := [Cond.methodLink RX8 287 yX6_farther, Cond.static yX6_farther, Cond.code yX6_farther cX6_farther 2 (some .int), Cond.methodLink RX6 27 Lib.Math.abs.name, Cond.static Lib.Math.abs.name, Cond.code Lib.Math.abs.name Lib.Math.abs.code 1 (some .int), Cond.methodLink RL 129 yX9_drift, Cond.instanceMethod yX9_drift, Cond.selects RX9 yX9_drift yX9_drift, Cond.code yX9_drift cX9_drift 4 (some .int), Cond.constantLong RX9 331 (9), Cond.methodLink RX9 333 yX9_farther, Cond.instanceMethod yX9_farther, Cond.selects RX9 yX9_farther yX9_farther, Cond.code yX9_farther cX9_farther 3 (some .int), Cond.methodLink RX9 328 Lib.Math.abs.name, Cond.methodLink RL 130 yX8_tile, Cond.instanceMethod yX8_tile, Cond.selects RX8 yX8_tile yX8_tile, Cond.code yX8_tile cX8_tile 9 (some .int), Cond.methodLink RX8 290 yX8_isTile, Cond.static yX8_isTile, Cond.code yX8_isTile cX8_isTile 2 (some .boolean), Cond.methodLink RX8 296 yX8_filledQuarters]
def wsL_law_r41 : List Cond := [Cond.instanceMethod yX8_filledQuarters, Cond.selects RX8 yX8_filledQuarters yX8_filledQuarters, Cond.code yX8_filledQuarters cX8_filledQuarters 6 (some .int), Cond.methodLink RL 134 yX9_tile, Cond.instanceMethod yX9_tile, Cond.selects RX9 yX9_tile yX9_tile, Cond.code yX9_tile cX9_tile 9 (some .int), Cond.methodLink RL 135 yX8_part, Cond.instanceMethod yX8_part, Cond.selects RX8 yX8_part yX8_part, Cond.code yX8_part cX8_part 3 (some .int), Cond.methodLink RX8 299 yX2_partOf, Cond.methodLink RL 138 yX9_part, Cond.instanceMethod yX9_part, Cond.selects RX9 yX9_part yX9_part, Cond.code yX9_part cX9_part 3 (some .int), Cond.methodLink RL 139 yX8_clearest, Cond.instanceMethod yX8_clearest, Cond.selects RX8 yX8_clearest yX8_clearest, Cond.code yX8_clearest cX8_clearest 5 (some .int), Cond.fieldLink RX8 302 "ScaleGroups$Order" "roots" "[I", Cond.methodLink RL 142 yX9_clearest, Cond.instanceMethod yX9_clearest, Cond.selects RX9 yX9_clearest yX9_clearest]
def wsL_law_r42 : List Cond := [Cond.code yX9_clearest cX9_clearest 5 (some .int), Cond.methodLink RL 143 yX8_best, Cond.instanceMethod yX8_best, Cond.selects RX8 yX8_best yX8_best, Cond.code yX8_best cX8_best 2 (some .int), Cond.fieldLink RX8 309 "ScaleGroups$Lasting" "total" "I", Cond.fieldLink RX8 312 "ScaleGroups$Lasting" "count" "I", Cond.methodLink RX8 305 yX1_choose, Cond.instanceMethod yX1_choose, Cond.selects RX1 yX1_choose yX1_choose, Cond.code yX1_choose cX1_choose 3 none, Cond.fieldLink RX1 29 "ScaleGroups$Order" "points" "LScaleGroups$Points;", Cond.fieldLink RX1 35 "ScaleGroups$Points" "count" "I", Cond.fieldLink RX1 38 "ScaleGroups$Order" "count" "I", Cond.methodLink RX1 47 Lib.Math.max.name, Cond.methodLink RX1 39 yX2_lastsOf, Cond.methodLink RX1 43 yX1_sidesTotal, Cond.instanceMethod yX1_sidesTotal, Cond.selects RX1 yX1_sidesTotal yX1_sidesTotal, Cond.code yX1_sidesTotal cX1_sidesTotal 3 (some .int), Cond.fieldLink RX1 61 "ScaleGroups$Order" "firstSides" "[I", Cond.fieldLink RX1 67 "ScaleGroups$Order" "otherSides" "[I", Cond.methodLink RX1 64 yX1_totalOf, Cond.instanceMethod yX1_totalOf]
def wsL_law_r43 : List Cond := [Cond.selects RX1 yX1_totalOf yX1_totalOf, Cond.code yX1_totalOf cX1_totalOf 4 (some .int), Cond.methodLink RX1 70 yX2_joinOf, Cond.methodLink RX1 53 yX1_chooseJoins, Cond.instanceMethod yX1_chooseJoins, Cond.selects RX1 yX1_chooseJoins yX1_chooseJoins, Cond.code yX1_chooseJoins cX1_chooseJoins 3 none, Cond.methodLink RX1 57 yX1_put, Cond.instanceMethod yX1_put, Cond.selects RX1 yX1_put yX1_put, Cond.code yX1_put cX1_put 4 none, Cond.methodLink RX1 76 yX2_setOf, Cond.methodLink RX1 79 yX6_least, Cond.methodLink RX1 73 yX1_openNode, Cond.instanceMethod yX1_openNode, Cond.selects RX1 yX1_openNode yX1_openNode, Cond.code yX1_openNode cX1_openNode 4 none, Cond.methodLink RX8 313 yX1_nth, Cond.instanceMethod yX1_nth, Cond.selects RX1 yX1_nth yX1_nth, Cond.code yX1_nth cX1_nth 5 (some .int), Cond.methodLink RL 146 yX9_best, Cond.instanceMethod yX9_best, Cond.selects RX9 yX9_best yX9_best]
def wsL_law_r44 : List Cond := [Cond.code yX9_best cX9_best 3 (some .int), Cond.fieldLink RX9 342 "ScaleGroupsModel" "bestMany" "I", Cond.methodLink RX9 339 yX9_takesBest, Cond.instanceMethod yX9_takesBest, Cond.selects RX9 yX9_takesBest yX9_takesBest, Cond.code yX9_takesBest cX9_takesBest 3 none, Cond.methodLink RX9 336 yX9_bestOf, Cond.instanceMethod yX9_bestOf, Cond.selects RX9 yX9_bestOf yX9_bestOf, Cond.code yX9_bestOf cX9_bestOf 3 (some .int), Cond.methodLink RX9 345 yX9_setOfNode, Cond.instanceMethod yX9_setOfNode, Cond.selects RX9 yX9_setOfNode yX9_setOfNode, Cond.code yX9_setOfNode cX9_setOfNode 2 (some .int), Cond.methodLink RL 147 yX8_shown, Cond.instanceMethod yX8_shown, Cond.selects RX8 yX8_shown yX8_shown, Cond.code yX8_shown cX8_shown 2 (some .int), Cond.fieldLink RX8 317 "ScaleGroups$Labels" "count" "I", Cond.methodLink RX8 314 yX8_layLabels, Cond.instanceMethod yX8_layLabels, Cond.selects RX8 yX8_layLabels yX8_layLabels, Cond.code yX8_layLabels cX8_layLabels 2 none, Cond.methodLink RX8 353 yX0_lay]
def wsL_law_r45 : List Cond := [Cond.instanceMethod yX0_lay, Cond.selects RX0 yX0_lay yX0_lay, Cond.code yX0_lay cX0_lay 6 none, Cond.fieldLink RX0 22 "ScaleGroups$Scale" "count" "I", Cond.methodLink RX0 25 yX6_first, Cond.static yX6_first, Cond.code yX6_first cX6_first 1 (some .int), Cond.methodLink RX0 31 yX5_heaviest, Cond.methodLink RX0 35 yX0_isClear, Cond.instanceMethod yX0_isClear, Cond.selects RX0 yX0_isClear yX0_isClear, Cond.code yX0_isClear cX0_isClear 5 (some .boolean), Cond.methodLink RX0 39 yX0_nearestTo, Cond.instanceMethod yX0_nearestTo, Cond.selects RX0 yX0_nearestTo yX0_nearestTo, Cond.code yX0_nearestTo cX0_nearestTo 7 (some .int), Cond.methodLink RX0 43 yX5_gap, Cond.instanceMethod yX5_gap, Cond.selects RX5 yX5_gap yX5_gap, Cond.code yX5_gap cX5_gap 3 (some .int), Cond.methodLink RX5 66 yX6_farther, Cond.methodLink RL 150 yX9_shown, Cond.instanceMethod yX9_shown, Cond.selects RX9 yX9_shown yX9_shown]
def wsL_law_r46 : List Cond := [Cond.code yX9_shown cX9_shown 2 (some .int), Cond.fieldLink RX9 351 "ScaleGroupsModel" "shownMany" "I", Cond.methodLink RX9 354 yX9_laysLabels, Cond.instanceMethod yX9_laysLabels, Cond.selects RX9 yX9_laysLabels yX9_laysLabels, Cond.code yX9_laysLabels cX9_laysLabels 5 none, Cond.fieldLink RX9 348 "ScaleGroupsModel" "rankedMany" "I", Cond.methodLink RL 151 yX8_label, Cond.instanceMethod yX8_label, Cond.selects RX8 yX8_label yX8_label, Cond.code yX8_label cX8_label 5 (some .int), Cond.fieldLink RX8 321 "ScaleGroups$Labels" "visible" "[I", Cond.methodLink RX8 318 yX0_countedWith, Cond.instanceMethod yX0_countedWith, Cond.selects RX0 yX0_countedWith yX0_countedWith, Cond.code yX0_countedWith cX0_countedWith 5 (some .int), Cond.methodLink RL 154 yX9_label, Cond.instanceMethod yX9_label, Cond.selects RX9 yX9_label yX9_label, Cond.code yX9_label cX9_label 7 (some .int), Cond.methodLink RX9 357 yX9_countedBy, Cond.instanceMethod yX9_countedBy, Cond.selects RX9 yX9_countedBy yX9_countedBy, Cond.code yX9_countedBy cX9_countedBy 4 (some .int)]
def wsL_law_r47 : List Cond := [Cond.methodLink RL 155 yX8_counted, Cond.instanceMethod yX8_counted, Cond.selects RX8 yX8_counted yX8_counted, Cond.code yX8_counted cX8_counted 4 (some .int), Cond.fieldLink RX8 324 "ScaleGroups$Labels" "holders" "[I", Cond.methodLink RL 158 yX9_counted, Cond.instanceMethod yX9_counted, Cond.selects RX9 yX9_counted yX9_counted, Cond.code yX9_counted cX9_counted 4 (some .int), Cond.methodLink RL 159 yX8_repaired, Cond.instanceMethod yX8_repaired, Cond.selects RX8 yX8_repaired yX8_repaired, Cond.code yX8_repaired cX8_repaired 2 (some .int), Cond.methodLink RX8 327 yX2_sumAparts, Cond.instanceMethod yX2_sumAparts, Cond.selects RX2 yX2_sumAparts yX2_sumAparts, Cond.code yX2_sumAparts cX2_sumAparts 3 (some .int), Cond.methodLink RX8 331 yX2_sameFromFirst, Cond.instanceMethod yX2_sameFromFirst, Cond.selects RX2 yX2_sameFromFirst yX2_sameFromFirst, Cond.code yX2_sameFromFirst cX2_sameFromFirst 3 (some .int), Cond.methodLink RL 162 yX9_repaired, Cond.instanceMethod yX9_repaired, Cond.selects RX9 yX9_repaired yX9_repaired]
def wsL_law_r48 : List Cond := [Cond.code yX9_repaired cX9_repaired 4 (some .int), Cond.methodLink RX9 363 yX9_goneOnes, Cond.instanceMethod yX9_goneOnes, Cond.selects RX9 yX9_goneOnes yX9_goneOnes, Cond.code yX9_goneOnes cX9_goneOnes 4 (some .int), Cond.methodLink RX9 360 yX9_isGone, Cond.instanceMethod yX9_isGone, Cond.selects RX9 yX9_isGone yX9_isGone, Cond.code yX9_isGone cX9_isGone 3 (some .boolean), Cond.methodLink RX9 367 yX9_asTheyWere, Cond.instanceMethod yX9_asTheyWere, Cond.selects RX9 yX9_asTheyWere yX9_asTheyWere, Cond.code yX9_asTheyWere cX9_asTheyWere 2 (some .int), Cond.methodLink RL 163 yX8_would, Cond.instanceMethod yX8_would, Cond.selects RX8 yX8_would yX8_would, Cond.code yX8_would cX8_would 4 (some .int), Cond.constant RX8 334 (-10000000), Cond.methodLink RL 166 yX9_would, Cond.instanceMethod yX9_would, Cond.selects RX9 yX9_would yX9_would, Cond.code yX9_would cX9_would 12 (some .int), Cond.constant RX9 370 (-10000000), Cond.methodLink RX9 371 yX9_allApart]
def wsL_law_r49 : List Cond := [Cond.instanceMethod yX9_allApart, Cond.selects RX9 yX9_allApart yX9_allApart, Cond.code yX9_allApart cX9_allApart 3 (some .int), Cond.methodLink RL 167 yX8_stirred, Cond.instanceMethod yX8_stirred, Cond.selects RX8 yX8_stirred yX8_stirred, Cond.code yX8_stirred cX8_stirred 7 (some .int), Cond.methodLink RL 170 yX9_stirred, Cond.instanceMethod yX9_stirred, Cond.selects RX9 yX9_stirred yX9_stirred, Cond.code yX9_stirred cX9_stirred 7 (some .int), Cond.methodLink RX9 374 yX9_laysWas, Cond.instanceMethod yX9_laysWas, Cond.selects RX9 yX9_laysWas yX9_laysWas, Cond.code yX9_laysWas cX9_laysWas 6 none, Cond.methodLink RX9 377 yX9_nowAt, Cond.instanceMethod yX9_nowAt, Cond.selects RX9 yX9_nowAt yX9_nowAt, Cond.code yX9_nowAt cX9_nowAt 2 (some .int), Cond.methodLink RL 171 yX8_look, Cond.instanceMethod yX8_look, Cond.selects RX8 yX8_look yX8_look, Cond.code yX8_look cX8_look 3 (some .int), Cond.methodLink RX8 339 yX6_first]
def wsL_law_r50 : List Cond := [Cond.methodLink RX8 342 yX2_sumRoots, Cond.instanceMethod yX2_sumRoots, Cond.selects RX2 yX2_sumRoots yX2_sumRoots, Cond.code yX2_sumRoots cX2_sumRoots 3 (some .int), Cond.methodLink RX8 345 yX2_mostLinks, Cond.instanceMethod yX2_mostLinks, Cond.selects RX2 yX2_mostLinks yX2_mostLinks, Cond.code yX2_mostLinks cX2_mostLinks 3 (some .int), Cond.methodLink RX2 136 yX2_linksOf, Cond.methodLink RX8 348 yX8_groupsOfAllZooms, Cond.instanceMethod yX8_groupsOfAllZooms, Cond.selects RX8 yX8_groupsOfAllZooms yX8_groupsOfAllZooms, Cond.code yX8_groupsOfAllZooms cX8_groupsOfAllZooms 3 (some .int), Cond.methodLink RX8 357 yX8_groups, Cond.methodLink RL 174 yX9_look, Cond.instanceMethod yX9_look, Cond.selects RX9 yX9_look yX9_look, Cond.code yX9_look cX9_look 2 (some .int), Cond.methodLink RX9 380 yX9_rootsOfAll, Cond.instanceMethod yX9_rootsOfAll, Cond.selects RX9 yX9_rootsOfAll yX9_rootsOfAll, Cond.code yX9_rootsOfAll cX9_rootsOfAll 3 (some .int), Cond.methodLink RX9 383 yX9_mostLinks, Cond.instanceMethod yX9_mostLinks]
def wsL_law_r51 : List Cond := [Cond.selects RX9 yX9_mostLinks yX9_mostLinks, Cond.code yX9_mostLinks cX9_mostLinks 3 (some .int), Cond.methodLink RX9 386 yX9_groupsOfAll, Cond.instanceMethod yX9_groupsOfAll, Cond.selects RX9 yX9_groupsOfAll yX9_groupsOfAll, Cond.code yX9_groupsOfAll cX9_groupsOfAll 3 (some .int)]
def wsL_law : List Cond := (wsL_law_r1 ++ (wsL_law_r2 ++ (wsL_law_r3 ++ (wsL_law_r4 ++ (wsL_law_r5 ++ (wsL_law_r6 ++ (wsL_law_r7 ++ (wsL_law_r8 ++ (wsL_law_r9 ++ (wsL_law_r10 ++ (wsL_law_r11 ++ (wsL_law_r12 ++ (wsL_law_r13 ++ (wsL_law_r14 ++ (wsL_law_r15 ++ (wsL_law_r16 ++ (wsL_law_r17 ++ (wsL_law_r18 ++ (wsL_law_r19 ++ (wsL_law_r20 ++ (wsL_law_r21 ++ (wsL_law_r22 ++ (wsL_law_r23 ++ (wsL_law_r24 ++ (wsL_law_r25 ++ (wsL_law_r26 ++ (wsL_law_r27 ++ (wsL_law_r28 ++ (wsL_law_r29 ++ (wsL_law_r30 ++ (wsL_law_r31 ++ (wsL_law_r32 ++ (wsL_law_r33 ++ (wsL_law_r34 ++ (wsL_law_r35 ++ (wsL_law_r36 ++ (wsL_law_r37 ++ (wsL_law_r38 ++ (wsL_law_r39 ++ (wsL_law_r40 ++ (wsL_law_r41 ++ (wsL_law_r42 ++ (wsL_law_r43 ++ (wsL_law_r44 ++ (wsL_law_r45 ++ (wsL_law_r46 ++ (wsL_law_r47 ++ (wsL_law_r48 ++ (wsL_law_r49 ++ (wsL_law_r50 ++ wsL_law_r51)))))))))))))))))))))))))))))))))))))))))))))))))) ++ wsX80 ++ wsX90 ++ wsX20 ++ wsX50 ++ wsX00 ++ wsX30 ++ wsX70 ++ wsX10 ++ wsX40 ++ ([] : List Cond)
set_option maxRecDepth 20000 in
theorem wsL_law_in : ∀ w ∈ wsL_law, w ∈ lw_tbl := fun w h => (goodIn_p wsL_law [119, 122, 127, 133, 239, 271, 290, 305, 318, 922, 379, 382, 386, 390, 394, 398, 402, 406, 410, 414, 446, 418, 429, 432, 422, 426, 436, 439, 443, 450, 454, 458, 462, 465, 469, 473, 477, 1042, 1046, 1051, 1055, 1060, 1064, 1068, 1072, 1076, 1080, 1084, 1088, 1094, 1098, 1102, 1106, 1110, 1114, 481, 485, 489, 1118, 1122, 1126, 493, 1130, 497, 501, 1134, 1139, 507, 1145, 511, 1149, 515, 1153, 519, 523, 528, 533, 1158, 1162, 1166, 537, 1170, 542, 545, 550, 1174, 1180, 554, 557, 564, 569, 573, 1184, 1188, 1192, 1196, 1200, 1204, 579, 583, 1208, 587, 591, 595, 1212, 1216, 601, 1220, 1225, 605, 610, 1229, 1233, 1237, 1241, 1245, 614, 617, 1249, 1253, 1258, 1262, 1266, 621, 625, 631, 635, 1270, 1274, 639, 643, 646, 649, 653, 657, 662, 666, 670, 674, 678, 1278, 1282, 1286, 1290, 1294, 1298, 1302, 1306, 683, 1310, 688, 1314, 692, 696, 700, 704, 1318, 1323, 1327, 1331, 1335, 708, 712, 716, 1339, 720, 724, 1343, 728, 1347, 732, 737, 741, 1351, 1355, 1359, 745, 749, 754, 757, 1367, 1371, 1375, 1379, 761, 765, 1383, 769, 773, 776, 779, 1387, 1392, 783, 786, 790, 1363, 794, 1397, 799, 1401, 803, 807, 812, 816, 822, 826, 832, 836, 1405, 1409, 1413, 1417, 840, 844, 848, 851, 856, 860, 864, 1421, 1425, 869, 873, 1429, 1433, 877, 1437, 881, 885, 889, 1441, 1445, 1449, 1453, 893, 1457, 1462, 898, 1466, 1470, 1474, 902, 907, 911, 916, 1478, 1482, 1486, 1490] (by decide +kernel) (by decide +kernel) w h).1
theorem inlX0 : ∀ w ∈ wsX00, w ∈ wsL_law := fun _ h => List.mem_append_left _ (List.mem_append_left _ (List.mem_append_left _ (List.mem_append_left _ (List.mem_append_left _ (List.mem_append_right _ h)))))
theorem inX0 : ∀ w ∈ wsX00, w ∈ lw_tbl := fun w h => wsL_law_in w (inlX0 w h)
theorem inlX1 : ∀ w ∈ wsX10, w ∈ wsL_law := fun _ h => List.mem_append_left _ (List.mem_append_left _ (List.mem_append_right _ h))
theorem inX1 : ∀ w ∈ wsX10, w ∈ lw_tbl := fun w h => wsL_law_in w (inlX1 w h)
theorem inlX2 : ∀ w ∈ wsX20, w ∈ wsL_law := fun _ h => List.mem_append_left _ (List.mem_append_left _ (List.mem_append_left _ (List.mem_append_left _ (List.mem_append_left _ (List.mem_append_left _ (List.mem_append_left _ (List.mem_append_right _ h)))))))
theorem inX2 : ∀ w ∈ wsX20, w ∈ lw_tbl := fun w h => wsL_law_in w (inlX2 w h)
theorem inlX3 : ∀ w ∈ wsX30, w ∈ wsL_law := fun _ h => List.mem_append_left _ (List.mem_append_left _ (List.mem_append_left _ (List.mem_append_left _ (List.mem_append_right _ h))))
theorem inX3 : ∀ w ∈ wsX30, w ∈ lw_tbl := fun w h => wsL_law_in w (inlX3 w h)
theorem inlX4 : ∀ w ∈ wsX40, w ∈ wsL_law := fun _ h => List.mem_append_left _ (List.mem_append_right _ h)
theorem inX4 : ∀ w ∈ wsX40, w ∈ lw_tbl := fun w h => wsL_law_in w (inlX4 w h)
theorem inlX5 : ∀ w ∈ wsX50, w ∈ wsL_law := fun _ h => List.mem_append_left _ (List.mem_append_left _ (List.mem_append_left _ (List.mem_append_left _ (List.mem_append_left _ (List.mem_append_left _ (List.mem_append_right _ h))))))
theorem inX5 : ∀ w ∈ wsX50, w ∈ lw_tbl := fun w h => wsL_law_in w (inlX5 w h)
theorem inX6 : ∀ w ∈ wsX60, w ∈ lw_tbl := by decide +kernel
theorem inlX7 : ∀ w ∈ wsX70, w ∈ wsL_law := fun _ h => List.mem_append_left _ (List.mem_append_left _ (List.mem_append_left _ (List.mem_append_right _ h)))
theorem inX7 : ∀ w ∈ wsX70, w ∈ lw_tbl := fun w h => wsL_law_in w (inlX7 w h)
theorem inlX8 : ∀ w ∈ wsX80, w ∈ wsL_law := fun _ h => List.mem_append_left _ (List.mem_append_left _ (List.mem_append_left _ (List.mem_append_left _ (List.mem_append_left _ (List.mem_append_left _ (List.mem_append_left _ (List.mem_append_left _ (List.mem_append_left _ (List.mem_append_right _ h)))))))))
theorem inX8 : ∀ w ∈ wsX80, w ∈ lw_tbl := fun w h => wsL_law_in w (inlX8 w h)
theorem inlX9 : ∀ w ∈ wsX90, w ∈ wsL_law := fun _ h => List.mem_append_left _ (List.mem_append_left _ (List.mem_append_left _ (List.mem_append_left _ (List.mem_append_left _ (List.mem_append_left _ (List.mem_append_left _ (List.mem_append_left _ (List.mem_append_right _ h))))))))
theorem inX9 : ∀ w ∈ wsX90, w ∈ lw_tbl := fun w h => wsL_law_in w (inlX9 w h)
theorem inJ6 : ∀ w ∈ wsJ60, w ∈ lw_tbl := by decide +kernel
theorem inJ9 : ∀ w ∈ wsJ90, w ∈ lw_tbl := by decide +kernel
set_option maxRecDepth 20000 in
theorem ggX0_lay_X6_first : GoodIn wsX0_lay wsX6_first := goodIn_r _ [8] (by decide +kernel) (by decide +kernel)
set_option maxRecDepth 20000 in
theorem gX0_lay_X6_first : GoodIn wsX0_lay (va_wsS RX0 25 yX6_first wsX6_first) := goodIn_app (goodIn_of _ (by decide +kernel)) ggX0_lay_X6_first
set_option maxRecDepth 20000 in
theorem ggX0_lay_X5_heaviest : GoodIn wsX0_lay wsX5_heaviest := goodIn_r _ [13, 14, 15, 16, 7, 17, 18, 19, 20, 12, 21, 22, 48, 49, 50, 51, 52, 53] (by decide +kernel) (by decide +kernel)
set_option maxRecDepth 20000 in
theorem gX0_lay_X5_heaviest : GoodIn wsX0_lay (wsV RX0 31 RX5 yX5_heaviest wsX5_heaviest) := goodIn_app (goodIn_of _ (by decide +kernel)) ggX0_lay_X5_heaviest
set_option maxRecDepth 20000 in
theorem ggX0_lay_X0_isClear : GoodIn wsX0_lay wsX0_isClear := goodIn_r _ [27, 3, 28, 29, 30, 26, 31, 2, 32, 33, 34, 12, 35, 36, 37, 38, 39, 7, 40, 41, 42, 43, 44, 45, 46, 47, 54, 55, 56, 48, 49, 50, 51, 52, 53] (by decide +kernel) (by decide +kernel)
set_option maxRecDepth 20000 in
theorem gX0_lay_X0_isClear : GoodIn wsX0_lay (wsV RX0 35 RX0 yX0_isClear wsX0_isClear) := goodIn_app (goodIn_of _ (by decide +kernel)) ggX0_lay_X0_isClear
set_option maxRecDepth 20000 in
theorem ggX0_lay_X0_nearestTo : GoodIn wsX0_lay wsX0_nearestTo := goodIn_r _ [31, 2, 3, 32, 33, 34, 12, 35, 36, 37, 38, 39, 7, 40, 41, 42, 43, 44, 45, 46, 47, 54, 55, 56, 48, 49, 50, 51, 52, 53] (by decide +kernel) (by decide +kernel)
set_option maxRecDepth 20000 in
theorem gX0_lay_X0_nearestTo : GoodIn wsX0_lay (wsV RX0 39 RX0 yX0_nearestTo wsX0_nearestTo) := goodIn_app (goodIn_of _ (by decide +kernel)) ggX0_lay_X0_nearestTo
set_option maxRecDepth 20000 in
theorem ggX0_isClear_X0_nearestTo : GoodIn wsX0_isClear wsX0_nearestTo := goodIn_r _ [6, 7, 1, 8, 9, 10, 11, 12, 13, 14, 15, 16, 17, 18, 19, 20, 21, 22, 23, 24, 25, 26, 27, 28, 29, 30, 31, 32, 33, 34] (by decide +kernel) (by decide +kernel)
set_option maxRecDepth 20000 in
theorem gX0_isClear_X0_nearestTo : GoodIn wsX0_isClear (wsV RX0 39 RX0 yX0_nearestTo wsX0_nearestTo) := goodIn_app (goodIn_of _ (by decide +kernel)) ggX0_isClear_X0_nearestTo
set_option maxRecDepth 20000 in
theorem ggX0_isClear_X5_gap : GoodIn wsX0_isClear wsX5_gap := goodIn_r _ [12, 13, 14, 15, 16, 17, 18, 19, 20, 21, 22, 23, 24, 25, 29, 30, 31, 32, 33, 34] (by decide +kernel) (by decide +kernel)
set_option maxRecDepth 20000 in
theorem gX0_isClear_X5_gap : GoodIn wsX0_isClear (wsV RX0 43 RX5 yX5_gap wsX5_gap) := goodIn_app (goodIn_of _ (by decide +kernel)) ggX0_isClear_X5_gap
set_option maxRecDepth 20000 in
theorem ggX0_nearestTo_X5_gap : GoodIn wsX0_nearestTo wsX5_gap := goodIn_r _ [7, 8, 9, 10, 11, 12, 13, 14, 15, 16, 17, 18, 19, 20, 24, 25, 26, 27, 28, 29] (by decide +kernel) (by decide +kernel)
set_option maxRecDepth 20000 in
theorem gX0_nearestTo_X5_gap : GoodIn wsX0_nearestTo (wsV RX0 43 RX5 yX5_gap wsX5_gap) := goodIn_app (goodIn_of _ (by decide +kernel)) ggX0_nearestTo_X5_gap
set_option maxRecDepth 20000 in
theorem ggX1_choose_X2_lastsOf : GoodIn wsX1_choose wsX2_lastsOf := goodIn_r _ [17, 18, 19, 20, 21, 22, 23, 16, 24, 25, 26, 27, 28, 29, 30, 31, 32, 33, 34, 35, 36, 37, 38, 39, 40, 41, 82, 83, 84, 85, 86, 87, 88, 89, 90, 91, 92, 93, 94, 95, 96, 97, 98, 99, 100] (by decide +kernel) (by decide +kernel)
set_option maxRecDepth 20000 in
theorem gX1_choose_X2_lastsOf : GoodIn wsX1_choose (wsV RX1 39 RX2 yX2_lastsOf wsX2_lastsOf) := goodIn_app (goodIn_of _ (by decide +kernel)) ggX1_choose_X2_lastsOf
set_option maxRecDepth 20000 in
theorem ggX1_choose_X1_sidesTotal : GoodIn wsX1_choose wsX1_sidesTotal := goodIn_r _ [46, 47, 48, 49, 50, 51, 45, 52, 7, 53, 23, 16, 24, 13, 14, 15, 17, 18, 19, 20, 21, 22, 25, 26, 27, 28, 29, 30, 31, 32, 33, 34, 35, 36, 37, 38, 39, 40, 41, 82, 83, 84, 85, 86, 87, 88, 89, 90, 91, 92, 93, 94, 95, 96, 77, 78, 79, 80, 81, 97, 98, 99, 100] (by decide +kernel) (by decide +kernel)
set_option maxRecDepth 20000 in
theorem gX1_choose_X1_sidesTotal : GoodIn wsX1_choose (wsV RX1 43 RX1 yX1_sidesTotal wsX1_sidesTotal) := goodIn_app (goodIn_of _ (by decide +kernel)) ggX1_choose_X1_sidesTotal
set_option maxRecDepth 20000 in
theorem ggX1_choose_X1_chooseJoins : GoodIn wsX1_choose wsX1_chooseJoins := goodIn_r _ [57, 6, 12, 47, 48, 13, 14, 15, 16, 17, 18, 19, 20, 21, 22, 23, 24, 25, 26, 27, 28, 29, 30, 31, 32, 33, 34, 35, 36, 37, 38, 39, 40, 41, 42, 43, 44, 45, 46, 49, 50, 51, 52, 7, 53, 58, 59, 60, 61, 5, 2, 62, 63, 64, 65, 66, 67, 68, 69, 70, 71, 72, 73, 74, 75, 76, 82, 83, 84, 85, 86, 87, 88, 89, 90, 91, 92, 93, 94, 95, 96, 77, 78, 79, 80, 81, 97, 98, 99, 100] (by decide +kernel) (by decide +kernel)
set_option maxRecDepth 20000 in
theorem gX1_choose_X1_chooseJoins : GoodIn wsX1_choose (wsV RX1 53 RX1 yX1_chooseJoins wsX1_chooseJoins) := goodIn_app (goodIn_of _ (by decide +kernel)) ggX1_choose_X1_chooseJoins
set_option maxRecDepth 20000 in
theorem ggX1_choose_X1_put : GoodIn wsX1_choose wsX1_put := goodIn_r _ [61, 5, 2, 62, 63, 64, 16, 65, 18, 22, 23, 24, 66, 67, 40, 68, 69, 70, 71, 72, 39, 41, 77, 78, 79, 80, 81, 82, 83, 84, 85, 86, 87, 88, 89, 90, 91, 92, 93, 94, 95, 96] (by decide +kernel) (by decide +kernel)
set_option maxRecDepth 20000 in
theorem gX1_choose_X1_put : GoodIn wsX1_choose (wsV RX1 57 RX1 yX1_put wsX1_put) := goodIn_app (goodIn_of _ (by decide +kernel)) ggX1_choose_X1_put
set_option maxRecDepth 20000 in
theorem ggX1_sidesTotal_X1_totalOf : GoodIn wsX1_sidesTotal wsX1_totalOf := goodIn_r _ [7, 8, 9, 10, 11, 12, 13, 14, 15, 16, 17, 18, 19, 20, 21, 22, 23, 24, 25, 26, 27, 28, 29, 30, 31, 32, 33, 34, 35, 36, 37, 38, 54, 55, 56, 57, 58, 39, 40, 41, 42, 43, 44, 45, 46, 47, 48, 49, 50, 51, 52, 53, 59, 60, 61, 62] (by decide +kernel) (by decide +kernel)
set_option maxRecDepth 20000 in
theorem gX1_sidesTotal_X1_totalOf : GoodIn wsX1_sidesTotal (wsV RX1 64 RX1 yX1_totalOf wsX1_totalOf) := goodIn_app (goodIn_of _ (by decide +kernel)) ggX1_sidesTotal_X1_totalOf
set_option maxRecDepth 20000 in
theorem ggX1_totalOf_X2_joinOf : GoodIn wsX1_totalOf wsX2_joinOf := goodIn_r _ [5] (by decide +kernel) (by decide +kernel)
set_option maxRecDepth 20000 in
theorem gX1_totalOf_X2_joinOf : GoodIn wsX1_totalOf (va_wsS RX1 70 yX2_joinOf wsX2_joinOf) := goodIn_app (goodIn_of _ (by decide +kernel)) ggX1_totalOf_X2_joinOf
set_option maxRecDepth 20000 in
theorem ggX1_totalOf_X2_lastsOf : GoodIn wsX1_totalOf wsX2_lastsOf := goodIn_r _ [9, 10, 11, 12, 13, 14, 3, 4, 5, 15, 16, 17, 18, 19, 20, 21, 22, 23, 24, 25, 26, 27, 28, 29, 30, 31, 37, 38, 39, 40, 41, 42, 43, 44, 45, 46, 47, 48, 49, 50, 51, 52, 53, 54, 55] (by decide +kernel) (by decide +kernel)
set_option maxRecDepth 20000 in
theorem gX1_totalOf_X2_lastsOf : GoodIn wsX1_totalOf (wsV RX1 39 RX2 yX2_lastsOf wsX2_lastsOf) := goodIn_app (goodIn_of _ (by decide +kernel)) ggX1_totalOf_X2_lastsOf
set_option maxRecDepth 20000 in
theorem ggX1_chooseJoins_X2_lastsOf : GoodIn wsX1_chooseJoins wsX2_lastsOf := goodIn_r _ [9, 10, 11, 12, 13, 14, 15, 8, 16, 17, 18, 19, 20, 21, 22, 23, 24, 25, 26, 27, 28, 29, 30, 31, 32, 33, 66, 67, 68, 69, 70, 71, 72, 73, 74, 75, 76, 77, 78, 79, 80, 86, 87, 88, 89] (by decide +kernel) (by decide +kernel)
set_option maxRecDepth 20000 in
theorem gX1_chooseJoins_X2_lastsOf : GoodIn wsX1_chooseJoins (wsV RX1 39 RX2 yX2_lastsOf wsX2_lastsOf) := goodIn_app (goodIn_of _ (by decide +kernel)) ggX1_chooseJoins_X2_lastsOf
set_option maxRecDepth 20000 in
theorem ggX1_chooseJoins_X1_sidesTotal : GoodIn wsX1_chooseJoins wsX1_sidesTotal := goodIn_r _ [38, 3, 4, 39, 40, 41, 37, 42, 43, 44, 15, 8, 16, 5, 6, 7, 9, 10, 11, 12, 13, 14, 17, 18, 19, 20, 21, 22, 23, 24, 25, 26, 27, 28, 29, 30, 31, 32, 33, 66, 67, 68, 69, 70, 71, 72, 73, 74, 75, 76, 77, 78, 79, 80, 81, 82, 83, 84, 85, 86, 87, 88, 89] (by decide +kernel) (by decide +kernel)
set_option maxRecDepth 20000 in
theorem gX1_chooseJoins_X1_sidesTotal : GoodIn wsX1_chooseJoins (wsV RX1 43 RX1 yX1_sidesTotal wsX1_sidesTotal) := goodIn_app (goodIn_of _ (by decide +kernel)) ggX1_chooseJoins_X1_sidesTotal
set_option maxRecDepth 20000 in
theorem ggX1_chooseJoins_X1_put : GoodIn wsX1_chooseJoins wsX1_put := goodIn_r _ [48, 49, 50, 51, 52, 53, 8, 54, 10, 14, 15, 16, 55, 56, 32, 57, 58, 59, 60, 61, 31, 33, 81, 82, 83, 84, 85, 66, 67, 68, 69, 70, 71, 72, 73, 74, 75, 76, 77, 78, 79, 80] (by decide +kernel) (by decide +kernel)
set_option maxRecDepth 20000 in
theorem gX1_chooseJoins_X1_put : GoodIn wsX1_chooseJoins (wsV RX1 57 RX1 yX1_put wsX1_put) := goodIn_app (goodIn_of _ (by decide +kernel)) ggX1_chooseJoins_X1_put
set_option maxRecDepth 20000 in
theorem ggX1_chooseJoins_X1_openNode : GoodIn wsX1_chooseJoins wsX1_openNode := goodIn_r _ [65, 2, 44, 15, 8, 16, 45, 46, 47, 37, 48, 49, 50, 51, 52, 53, 54, 10, 14, 55, 56, 32, 57, 58, 59, 60, 61, 31, 33, 81, 82, 83, 84, 85, 66, 67, 68, 69, 70, 71, 72, 73, 74, 75, 76, 77, 78, 79, 80] (by decide +kernel) (by decide +kernel)
set_option maxRecDepth 20000 in
theorem gX1_chooseJoins_X1_openNode : GoodIn wsX1_chooseJoins (wsV RX1 73 RX1 yX1_openNode wsX1_openNode) := goodIn_app (goodIn_of _ (by decide +kernel)) ggX1_chooseJoins_X1_openNode
set_option maxRecDepth 20000 in
theorem ggX1_openNode_X2_joinOf : GoodIn wsX1_openNode wsX2_joinOf := goodIn_r _ [5] (by decide +kernel) (by decide +kernel)
set_option maxRecDepth 20000 in
theorem gX1_openNode_X2_joinOf : GoodIn wsX1_openNode (va_wsS RX1 70 yX2_joinOf wsX2_joinOf) := goodIn_app (goodIn_of _ (by decide +kernel)) ggX1_openNode_X2_joinOf
set_option maxRecDepth 20000 in
theorem ggX1_openNode_X1_put : GoodIn wsX1_openNode wsX1_put := goodIn_r _ [10, 11, 12, 13, 14, 15, 4, 16, 17, 18, 3, 5, 19, 20, 21, 22, 23, 24, 25, 26, 27, 28, 29, 30, 31, 32, 33, 34, 35, 36, 37, 38, 39, 40, 41, 42, 43, 44, 45, 46, 47, 48] (by decide +kernel) (by decide +kernel)
set_option maxRecDepth 20000 in
theorem gX1_openNode_X1_put : GoodIn wsX1_openNode (wsV RX1 57 RX1 yX1_put wsX1_put) := goodIn_app (goodIn_of _ (by decide +kernel)) ggX1_openNode_X1_put
set_option maxRecDepth 20000 in
theorem ggX1_put_X2_setOf : GoodIn wsX1_put wsX2_setOf := goodIn_r _ [7, 8, 9, 10, 6, 11, 27, 28, 29, 30, 31, 32, 33, 34, 35, 36, 37, 38, 39, 40, 41] (by decide +kernel) (by decide +kernel)
set_option maxRecDepth 20000 in
theorem gX1_put_X2_setOf : GoodIn wsX1_put (wsV RX1 76 RX2 yX2_setOf wsX2_setOf) := goodIn_app (goodIn_of _ (by decide +kernel)) ggX1_put_X2_setOf
set_option maxRecDepth 20000 in
theorem ggX1_put_X6_least : GoodIn wsX1_put wsX6_least := goodIn_r _ [15, 16, 17, 14, 18, 19, 20, 21] (by decide +kernel) (by decide +kernel)
set_option maxRecDepth 20000 in
theorem gX1_put_X6_least : GoodIn wsX1_put (va_wsS RX1 79 yX6_least wsX6_least) := goodIn_app (goodIn_of _ (by decide +kernel)) ggX1_put_X6_least
set_option maxRecDepth 20000 in
theorem ggX2_init_X4_init : GoodIn wsX2_init wsX4_init := goodIn_r _ [26, 27, 2, 3, 28, 11, 29, 30, 31, 32, 33, 34, 35] (by decide +kernel) (by decide +kernel)
set_option maxRecDepth 20000 in
theorem gX2_init_X4_init : GoodIn wsX2_init (wsX4_init) := ggX2_init_X4_init
set_option maxRecDepth 20000 in
theorem ggX2_rebuild_X2_growTree : GoodIn wsX2_rebuild wsX2_growTree := goodIn_r _ [10, 5, 1, 2, 11, 12, 13, 14, 15, 16, 17, 18, 9, 19, 20, 21, 22, 23, 24, 25, 26, 27, 28, 29, 30, 31, 32, 33, 34, 35, 36, 37, 38, 39, 40, 41, 42, 43, 44, 45, 46, 47, 48, 49, 84, 85, 86, 87, 88, 89, 90, 91, 92, 93, 94, 95, 96, 97, 98, 99, 100, 101, 102] (by decide +kernel) (by decide +kernel)
set_option maxRecDepth 20000 in
theorem gX2_rebuild_X2_growTree : GoodIn wsX2_rebuild (wsV RX2 63 RX2 yX2_growTree wsX2_growTree) := goodIn_app (goodIn_of _ (by decide +kernel)) ggX2_rebuild_X2_growTree
set_option maxRecDepth 20000 in
theorem ggX2_rebuild_X2_makeJoin : GoodIn wsX2_rebuild wsX2_makeJoin := goodIn_r _ [53, 49, 54, 1, 2, 55, 56, 57, 58, 59, 60, 3, 61, 62, 63, 64, 65, 43, 66, 67, 68, 69, 9, 70, 71, 72, 73, 74, 75, 76, 77, 78, 79, 80, 81, 82, 83, 4, 41, 42, 44, 84, 85, 86, 87, 88, 89, 90, 91, 92, 93, 94, 95, 96, 97, 98, 99, 100, 101, 102] (by decide +kernel) (by decide +kernel)
set_option maxRecDepth 20000 in
theorem gX2_rebuild_X2_makeJoin : GoodIn wsX2_rebuild (wsV RX2 67 RX2 yX2_makeJoin wsX2_makeJoin) := goodIn_app (goodIn_of _ (by decide +kernel)) ggX2_rebuild_X2_makeJoin
set_option maxRecDepth 20000 in
theorem ggX2_growTree_X2_keyOf : GoodIn wsX2_growTree wsX2_keyOf := goodIn_r _ [13, 2, 14, 15, 7, 16, 17, 18, 19, 20, 21, 22, 23, 24, 25, 26, 27, 28, 29, 30, 44, 45, 46, 47, 48, 49, 50, 51, 52, 53, 54, 55, 56, 57, 58, 59, 60, 61, 62] (by decide +kernel) (by decide +kernel)
set_option maxRecDepth 20000 in
theorem gX2_growTree_X2_keyOf : GoodIn wsX2_growTree (wsV RX2 71 RX2 yX2_keyOf wsX2_keyOf) := goodIn_app (goodIn_of _ (by decide +kernel)) ggX2_growTree_X2_keyOf
set_option maxRecDepth 20000 in
theorem ggX2_growTree_X2_nextToGrow : GoodIn wsX2_growTree wsX2_nextToGrow := goodIn_r _ [34, 2, 3, 4, 35, 36, 37, 38, 44, 45, 46, 47, 48, 49, 50, 51, 52, 53, 54, 55, 56, 57, 58, 59, 60, 61, 62] (by decide +kernel) (by decide +kernel)
set_option maxRecDepth 20000 in
theorem gX2_growTree_X2_nextToGrow : GoodIn wsX2_growTree (wsV RX2 75 RX2 yX2_nextToGrow wsX2_nextToGrow) := goodIn_app (goodIn_of _ (by decide +kernel)) ggX2_growTree_X2_nextToGrow
set_option maxRecDepth 20000 in
theorem ggX2_growTree_X2_putKey : GoodIn wsX2_growTree wsX2_putKey := goodIn_r _ [42, 1, 43, 44, 45, 46, 47, 48, 49, 50, 51, 52, 53, 54, 55, 56, 57, 58] (by decide +kernel) (by decide +kernel)
set_option maxRecDepth 20000 in
theorem gX2_growTree_X2_putKey : GoodIn wsX2_growTree (wsV RX2 79 RX2 yX2_putKey wsX2_putKey) := goodIn_app (goodIn_of _ (by decide +kernel)) ggX2_growTree_X2_putKey
set_option maxRecDepth 20000 in
theorem ggX2_growTree_X6_has : GoodIn wsX2_growTree wsX6_has := goodIn_r _ [38] (by decide +kernel) (by decide +kernel)
set_option maxRecDepth 20000 in
theorem gX2_growTree_X6_has : GoodIn wsX2_growTree (va_wsS RX2 83 yX6_has wsX6_has) := goodIn_app (goodIn_of _ (by decide +kernel)) ggX2_growTree_X6_has
set_option maxRecDepth 20000 in
theorem ggX2_nextToGrow_X6_has : GoodIn wsX2_nextToGrow wsX6_has := goodIn_r _ [7] (by decide +kernel) (by decide +kernel)
set_option maxRecDepth 20000 in
theorem gX2_nextToGrow_X6_has : GoodIn wsX2_nextToGrow (va_wsS RX2 83 yX6_has wsX6_has) := goodIn_app (goodIn_of _ (by decide +kernel)) ggX2_nextToGrow_X6_has
set_option maxRecDepth 20000 in
theorem ggX2_keyOf_X4_apart : GoodIn wsX2_keyOf wsX4_apart := goodIn_r _ [13, 14, 15, 16, 17, 18, 12, 19, 35, 36, 37, 38] (by decide +kernel) (by decide +kernel)
set_option maxRecDepth 20000 in
theorem gX2_keyOf_X4_apart : GoodIn wsX2_keyOf (wsV RX2 95 RX4 yX4_apart wsX4_apart) := goodIn_app (goodIn_of _ (by decide +kernel)) ggX2_keyOf_X4_apart
set_option maxRecDepth 20000 in
theorem ggX2_makeJoin_X6_root : GoodIn wsX2_makeJoin wsX6_root := goodIn_r _ [18] (by decide +kernel) (by decide +kernel)
set_option maxRecDepth 20000 in
theorem gX2_makeJoin_X6_root : GoodIn wsX2_makeJoin (va_wsS RX2 106 yX6_root wsX6_root) := goodIn_app (goodIn_of _ (by decide +kernel)) ggX2_makeJoin_X6_root
set_option maxRecDepth 20000 in
theorem ggX2_makeJoin_X2_placeOf : GoodIn wsX2_makeJoin wsX2_placeOf := goodIn_r _ [23, 3, 24, 25, 41, 42, 43, 44, 45, 46, 47, 48, 49, 50, 51, 52, 53, 54, 55, 56, 57, 58, 59] (by decide +kernel) (by decide +kernel)
set_option maxRecDepth 20000 in
theorem gX2_makeJoin_X2_placeOf : GoodIn wsX2_makeJoin (wsV RX2 109 RX2 yX2_placeOf wsX2_placeOf) := goodIn_app (goodIn_of _ (by decide +kernel)) ggX2_makeJoin_X2_placeOf
set_option maxRecDepth 20000 in
theorem ggX2_makeJoin_X2_setOf : GoodIn wsX2_makeJoin wsX2_setOf := goodIn_r _ [29, 13, 30, 31, 22, 32, 41, 42, 43, 44, 45, 46, 47, 48, 49, 50, 51, 52, 53, 54, 55] (by decide +kernel) (by decide +kernel)
set_option maxRecDepth 20000 in
theorem gX2_makeJoin_X2_setOf : GoodIn wsX2_makeJoin (wsV RX2 113 RX2 yX2_setOf wsX2_setOf) := goodIn_app (goodIn_of _ (by decide +kernel)) ggX2_makeJoin_X2_setOf
set_option maxRecDepth 20000 in
theorem ggX2_makeJoin_X2_putBelow : GoodIn wsX2_makeJoin wsX2_putBelow := goodIn_r _ [36, 14, 37, 30, 31, 22, 32, 41, 42, 43, 44, 45, 46, 47, 48, 49, 50, 51, 52, 53, 54, 55] (by decide +kernel) (by decide +kernel)
set_option maxRecDepth 20000 in
theorem gX2_makeJoin_X2_putBelow : GoodIn wsX2_makeJoin (wsV RX2 116 RX2 yX2_putBelow wsX2_putBelow) := goodIn_app (goodIn_of _ (by decide +kernel)) ggX2_makeJoin_X2_putBelow
set_option maxRecDepth 20000 in
theorem ggX2_makeJoin_X6_has : GoodIn wsX2_makeJoin wsX6_has := goodIn_r _ [40] (by decide +kernel) (by decide +kernel)
set_option maxRecDepth 20000 in
theorem gX2_makeJoin_X6_has : GoodIn wsX2_makeJoin (va_wsS RX2 83 yX6_has wsX6_has) := goodIn_app (goodIn_of _ (by decide +kernel)) ggX2_makeJoin_X6_has
set_option maxRecDepth 20000 in
theorem ggX2_putBelow_X2_joinOf : GoodIn wsX2_putBelow wsX2_joinOf := goodIn_r _ [6] (by decide +kernel) (by decide +kernel)
set_option maxRecDepth 20000 in
theorem gX2_putBelow_X2_joinOf : GoodIn wsX2_putBelow (va_wsS RX2 126 yX2_joinOf wsX2_joinOf) := goodIn_app (goodIn_of _ (by decide +kernel)) ggX2_putBelow_X2_joinOf
set_option maxRecDepth 20000 in
theorem ggX2_setOf_X2_joinOf : GoodIn wsX2_setOf wsX2_joinOf := goodIn_r _ [5] (by decide +kernel) (by decide +kernel)
set_option maxRecDepth 20000 in
theorem gX2_setOf_X2_joinOf : GoodIn wsX2_setOf (va_wsS RX2 126 yX2_joinOf wsX2_joinOf) := goodIn_app (goodIn_of _ (by decide +kernel)) ggX2_setOf_X2_joinOf
set_option maxRecDepth 20000 in
theorem ggX2_lastsOf_X2_joinOf : GoodIn wsX2_lastsOf wsX2_joinOf := goodIn_r _ [8] (by decide +kernel) (by decide +kernel)
set_option maxRecDepth 20000 in
theorem gX2_lastsOf_X2_joinOf : GoodIn wsX2_lastsOf (va_wsS RX2 126 yX2_joinOf wsX2_joinOf) := goodIn_app (goodIn_of _ (by decide +kernel)) ggX2_lastsOf_X2_joinOf
set_option maxRecDepth 20000 in
theorem ggX2_lastsOf_X2_weightTill : GoodIn wsX2_lastsOf wsX2_weightTill := goodIn_r _ [12, 13, 14, 2, 15, 16, 17, 18, 19, 20, 21, 22, 23, 24, 25, 26, 27, 28, 29, 30, 31, 32, 33, 34, 35, 36, 37, 38, 39, 40, 41, 42, 43, 44] (by decide +kernel) (by decide +kernel)
set_option maxRecDepth 20000 in
theorem gX2_lastsOf_X2_weightTill : GoodIn wsX2_lastsOf (wsV RX2 129 RX2 yX2_weightTill wsX2_weightTill) := goodIn_app (goodIn_of _ (by decide +kernel)) ggX2_lastsOf_X2_weightTill
set_option maxRecDepth 20000 in
theorem ggX2_weightTill_X4_weightOf : GoodIn wsX2_weightTill wsX4_weightOf := goodIn_r _ [8, 9, 10, 11, 12, 13, 14, 30, 31, 32, 33] (by decide +kernel) (by decide +kernel)
set_option maxRecDepth 20000 in
theorem gX2_weightTill_X4_weightOf : GoodIn wsX2_weightTill (wsV RX2 133 RX4 yX4_weightOf wsX4_weightOf) := goodIn_app (goodIn_of _ (by decide +kernel)) ggX2_weightTill_X4_weightOf
set_option maxRecDepth 20000 in
theorem ggX2_partOf_X6_has : GoodIn wsX2_partOf wsX6_has := goodIn_r _ [10] (by decide +kernel) (by decide +kernel)
set_option maxRecDepth 20000 in
theorem gX2_partOf_X6_has : GoodIn wsX2_partOf (va_wsS RX2 83 yX6_has wsX6_has) := goodIn_app (goodIn_of _ (by decide +kernel)) ggX2_partOf_X6_has
set_option maxRecDepth 20000 in
theorem ggX2_meeting_X6_has : GoodIn wsX2_meeting wsX6_has := goodIn_r _ [6] (by decide +kernel) (by decide +kernel)
set_option maxRecDepth 20000 in
theorem gX2_meeting_X6_has : GoodIn wsX2_meeting (va_wsS RX2 83 yX6_has wsX6_has) := goodIn_app (goodIn_of _ (by decide +kernel)) ggX2_meeting_X6_has
set_option maxRecDepth 20000 in
theorem ggX2_mostLinks_X2_linksOf : GoodIn wsX2_mostLinks wsX2_linksOf := goodIn_r _ [11, 12, 13, 14, 15, 16, 17, 18, 19, 20, 21, 22, 23, 24, 25, 26, 27, 28, 29] (by decide +kernel) (by decide +kernel)
set_option maxRecDepth 20000 in
theorem gX2_mostLinks_X2_linksOf : GoodIn wsX2_mostLinks (wsV RX2 136 RX2 yX2_linksOf wsX2_linksOf) := goodIn_app (goodIn_of _ (by decide +kernel)) ggX2_mostLinks_X2_linksOf
set_option maxRecDepth 20000 in
theorem ggX2_countUnlike_X2_hasPair : GoodIn wsX2_countUnlike wsX2_hasPair := goodIn_r _ [7, 1, 2, 8, 9, 10, 11, 12, 13, 14, 15, 16, 17, 18, 19, 20, 21, 22] (by decide +kernel) (by decide +kernel)
set_option maxRecDepth 20000 in
theorem gX2_countUnlike_X2_hasPair : GoodIn wsX2_countUnlike (wsV RX2 139 RX2 yX2_hasPair wsX2_hasPair) := goodIn_app (goodIn_of _ (by decide +kernel)) ggX2_countUnlike_X2_hasPair
set_option maxRecDepth 20000 in
theorem ggX3_draw_X6_has : GoodIn wsX3_draw wsX6_has := goodIn_r _ [7] (by decide +kernel) (by decide +kernel)
set_option maxRecDepth 20000 in
theorem gX3_draw_X6_has : GoodIn wsX3_draw (va_wsS RX3 22 yX6_has wsX6_has) := goodIn_app (goodIn_of _ (by decide +kernel)) ggX3_draw_X6_has
set_option maxRecDepth 20000 in
theorem ggX3_draw_X3_turnTo : GoodIn wsX3_draw wsX3_turnTo := goodIn_r _ [12, 1, 3, 13, 14, 11, 15, 16, 17, 18, 19, 20, 21, 22, 23] (by decide +kernel) (by decide +kernel)
set_option maxRecDepth 20000 in
theorem gX3_draw_X3_turnTo : GoodIn wsX3_draw (wsV RX3 28 RX3 yX3_turnTo wsX3_turnTo) := goodIn_app (goodIn_of _ (by decide +kernel)) ggX3_draw_X3_turnTo
set_option maxRecDepth 20000 in
theorem ggX3_turnTo_X3_cross : GoodIn wsX3_turnTo wsX3_cross := goodIn_r _ [6, 7, 8, 11, 12, 13, 14] (by decide +kernel) (by decide +kernel)
set_option maxRecDepth 20000 in
theorem gX3_turnTo_X3_cross : GoodIn wsX3_turnTo (va_wsS RX3 32 yX3_cross wsX3_cross) := goodIn_app (goodIn_of _ (by decide +kernel)) ggX3_turnTo_X3_cross
set_option maxRecDepth 20000 in
theorem ggX4_canCome_X4_find : GoodIn wsX4_canCome wsX4_find := goodIn_r _ [6, 1, 7, 8, 9, 10, 11, 12] (by decide +kernel) (by decide +kernel)
set_option maxRecDepth 20000 in
theorem gX4_canCome_X4_find : GoodIn wsX4_canCome (wsV RX4 25 RX4 yX4_find wsX4_find) := goodIn_app (goodIn_of _ (by decide +kernel)) ggX4_canCome_X4_find
set_option maxRecDepth 20000 in
theorem ggX4_put_X4_move : GoodIn wsX4_put wsX4_move := goodIn_r _ [9, 2, 3, 4, 10, 11, 12, 13] (by decide +kernel) (by decide +kernel)
set_option maxRecDepth 20000 in
theorem gX4_put_X4_move : GoodIn wsX4_put (wsV RX4 29 RX4 yX4_move wsX4_move) := goodIn_app (goodIn_of _ (by decide +kernel)) ggX4_put_X4_move
set_option maxRecDepth 20000 in
theorem ggX4_drop_X4_move : GoodIn wsX4_drop wsX4_move := goodIn_r _ [6, 7, 8, 9, 10, 11, 12, 13] (by decide +kernel) (by decide +kernel)
set_option maxRecDepth 20000 in
theorem gX4_drop_X4_move : GoodIn wsX4_drop (wsV RX4 29 RX4 yX4_move wsX4_move) := goodIn_app (goodIn_of _ (by decide +kernel)) ggX4_drop_X4_move
set_option maxRecDepth 20000 in
theorem ggX4_apart_X4_squares : GoodIn wsX4_apart wsX4_squares := goodIn_r _ [7, 1, 2, 8, 9, 10, 11] (by decide +kernel) (by decide +kernel)
set_option maxRecDepth 20000 in
theorem gX4_apart_X4_squares : GoodIn wsX4_apart (wsV RX4 33 RX4 yX4_squares wsX4_squares) := goodIn_app (goodIn_of _ (by decide +kernel)) ggX4_apart_X4_squares
set_option maxRecDepth 20000 in
theorem ggX4_nearestTo_X4_apart : GoodIn wsX4_nearestTo wsX4_apart := goodIn_r _ [6, 7, 8, 9, 10, 11, 5, 12, 13, 14, 15, 16] (by decide +kernel) (by decide +kernel)
set_option maxRecDepth 20000 in
theorem gX4_nearestTo_X4_apart : GoodIn wsX4_nearestTo (wsV RX4 37 RX4 yX4_apart wsX4_apart) := goodIn_app (goodIn_of _ (by decide +kernel)) ggX4_nearestTo_X4_apart
set_option maxRecDepth 20000 in
theorem ggX4_apartFromNearest_X4_nearestTo : GoodIn wsX4_apartFromNearest wsX4_nearestTo := goodIn_r _ [5, 6, 7, 8, 9, 4, 10, 11, 12, 13, 14, 15, 16, 17, 18, 19, 20] (by decide +kernel) (by decide +kernel)
set_option maxRecDepth 20000 in
theorem gX4_apartFromNearest_X4_nearestTo : GoodIn wsX4_apartFromNearest (wsV RX4 40 RX4 yX4_nearestTo wsX4_nearestTo) := goodIn_app (goodIn_of _ (by decide +kernel)) ggX4_apartFromNearest_X4_nearestTo
set_option maxRecDepth 20000 in
theorem ggX4_apartFromNearest_X4_apart : GoodIn wsX4_apartFromNearest wsX4_apart := goodIn_r _ [10, 11, 12, 13, 14, 15, 4, 16, 17, 18, 19, 20] (by decide +kernel) (by decide +kernel)
set_option maxRecDepth 20000 in
theorem gX4_apartFromNearest_X4_apart : GoodIn wsX4_apartFromNearest (wsV RX4 37 RX4 yX4_apart wsX4_apart) := goodIn_app (goodIn_of _ (by decide +kernel)) ggX4_apartFromNearest_X4_apart
set_option maxRecDepth 20000 in
theorem ggX4_weightOf_X6_has : GoodIn wsX4_weightOf wsX6_has := goodIn_r _ [6] (by decide +kernel) (by decide +kernel)
set_option maxRecDepth 20000 in
theorem gX4_weightOf_X6_has : GoodIn wsX4_weightOf (va_wsS RX4 44 yX6_has wsX6_has) := goodIn_app (goodIn_of _ (by decide +kernel)) ggX4_weightOf_X6_has
set_option maxRecDepth 20000 in
theorem ggX4_heaviestOf_X6_has : GoodIn wsX4_heaviestOf wsX6_has := goodIn_r _ [6] (by decide +kernel) (by decide +kernel)
set_option maxRecDepth 20000 in
theorem gX4_heaviestOf_X6_has : GoodIn wsX4_heaviestOf (va_wsS RX4 44 yX6_has wsX6_has) := goodIn_app (goodIn_of _ (by decide +kernel)) ggX4_heaviestOf_X6_has
set_option maxRecDepth 20000 in
theorem ggX4_wide_X6_has : GoodIn wsX4_wide wsX6_has := goodIn_r _ [9] (by decide +kernel) (by decide +kernel)
set_option maxRecDepth 20000 in
theorem gX4_wide_X6_has : GoodIn wsX4_wide (va_wsS RX4 44 yX6_has wsX6_has) := goodIn_app (goodIn_of _ (by decide +kernel)) ggX4_wide_X6_has
set_option maxRecDepth 20000 in
theorem ggX4_wide_X4_apart : GoodIn wsX4_wide wsX4_apart := goodIn_r _ [14, 15, 16, 17, 18, 19, 13, 20, 21, 22, 23, 24] (by decide +kernel) (by decide +kernel)
set_option maxRecDepth 20000 in
theorem gX4_wide_X4_apart : GoodIn wsX4_wide (wsV RX4 37 RX4 yX4_apart wsX4_apart) := goodIn_app (goodIn_of _ (by decide +kernel)) ggX4_wide_X4_apart
set_option maxRecDepth 20000 in
theorem ggX5_cut_X2_joinsWithin : GoodIn wsX5_cut wsX2_joinsWithin := goodIn_r _ [9, 10, 11, 44, 45, 46, 47, 48, 49, 50, 51, 52, 53, 54, 55, 56, 57, 58] (by decide +kernel) (by decide +kernel)
set_option maxRecDepth 20000 in
theorem gX5_cut_X2_joinsWithin : GoodIn wsX5_cut (wsV RX5 31 RX2 yX2_joinsWithin wsX2_joinsWithin) := goodIn_app (goodIn_of _ (by decide +kernel)) ggX5_cut_X2_joinsWithin
set_option maxRecDepth 20000 in
theorem ggX5_cut_X6_has : GoodIn wsX5_cut wsX6_has := goodIn_r _ [15] (by decide +kernel) (by decide +kernel)
set_option maxRecDepth 20000 in
theorem gX5_cut_X6_has : GoodIn wsX5_cut (va_wsS RX5 44 yX6_has wsX6_has) := goodIn_app (goodIn_of _ (by decide +kernel)) ggX5_cut_X6_has
set_option maxRecDepth 20000 in
theorem ggX5_cut_X2_partOf : GoodIn wsX5_cut wsX2_partOf := goodIn_r _ [19, 10, 20, 21, 22, 23, 24, 25, 13, 14, 15, 44, 45, 46, 47, 48, 49, 50, 51, 52, 53, 54, 55, 56, 57, 58] (by decide +kernel) (by decide +kernel)
set_option maxRecDepth 20000 in
theorem gX5_cut_X2_partOf : GoodIn wsX5_cut (wsV RX5 50 RX2 yX2_partOf wsX2_partOf) := goodIn_app (goodIn_of _ (by decide +kernel)) ggX5_cut_X2_partOf
set_option maxRecDepth 20000 in
theorem ggX5_cut_X5_gather : GoodIn wsX5_cut wsX5_gather := goodIn_r _ [30, 3, 4, 31, 32, 33, 34, 35, 36, 37, 12, 13, 14, 15, 59, 60, 61, 62, 38, 39, 40, 41, 42, 43] (by decide +kernel) (by decide +kernel)
set_option maxRecDepth 20000 in
theorem gX5_cut_X5_gather : GoodIn wsX5_cut (wsV RX5 54 RX5 yX5_gather wsX5_gather) := goodIn_app (goodIn_of _ (by decide +kernel)) ggX5_cut_X5_gather
set_option maxRecDepth 20000 in
theorem ggX5_gather_X6_has : GoodIn wsX5_gather wsX6_has := goodIn_r _ [13] (by decide +kernel) (by decide +kernel)
set_option maxRecDepth 20000 in
theorem gX5_gather_X6_has : GoodIn wsX5_gather (va_wsS RX5 44 yX6_has wsX6_has) := goodIn_app (goodIn_of _ (by decide +kernel)) ggX5_gather_X6_has
set_option maxRecDepth 20000 in
theorem ggX5_weightOf_X6_has : GoodIn wsX5_weightOf wsX6_has := goodIn_r _ [6] (by decide +kernel) (by decide +kernel)
set_option maxRecDepth 20000 in
theorem gX5_weightOf_X6_has : GoodIn wsX5_weightOf (va_wsS RX5 44 yX6_has wsX6_has) := goodIn_app (goodIn_of _ (by decide +kernel)) ggX5_weightOf_X6_has
set_option maxRecDepth 20000 in
theorem ggX5_heaviest_X6_has : GoodIn wsX5_heaviest wsX6_has := goodIn_r _ [5] (by decide +kernel) (by decide +kernel)
set_option maxRecDepth 20000 in
theorem gX5_heaviest_X6_has : GoodIn wsX5_heaviest (va_wsS RX5 44 yX6_has wsX6_has) := goodIn_app (goodIn_of _ (by decide +kernel)) ggX5_heaviest_X6_has
set_option maxRecDepth 20000 in
theorem ggX5_heaviest_X5_countAhead : GoodIn wsX5_heaviest wsX5_countAhead := goodIn_r _ [10, 1, 11, 2, 3, 4, 5, 12, 13, 14, 15, 16, 17] (by decide +kernel) (by decide +kernel)
set_option maxRecDepth 20000 in
theorem gX5_heaviest_X5_countAhead : GoodIn wsX5_heaviest (wsV RX5 63 RX5 yX5_countAhead wsX5_countAhead) := goodIn_app (goodIn_of _ (by decide +kernel)) ggX5_heaviest_X5_countAhead
set_option maxRecDepth 20000 in
theorem ggX5_countAhead_X6_has : GoodIn wsX5_countAhead wsX6_has := goodIn_r _ [6] (by decide +kernel) (by decide +kernel)
set_option maxRecDepth 20000 in
theorem gX5_countAhead_X6_has : GoodIn wsX5_countAhead (va_wsS RX5 44 yX6_has wsX6_has) := goodIn_app (goodIn_of _ (by decide +kernel)) ggX5_countAhead_X6_has
set_option maxRecDepth 20000 in
theorem ggX5_gap_X6_farther : GoodIn wsX5_gap wsX6_farther := goodIn_r _ [6, 7, 8, 9, 10, 11, 12, 13] (by decide +kernel) (by decide +kernel)
set_option maxRecDepth 20000 in
theorem gX5_gap_X6_farther : GoodIn wsX5_gap (va_wsS RX5 66 yX6_farther wsX6_farther) := goodIn_app (goodIn_of _ (by decide +kernel)) ggX5_gap_X6_farther
set_option maxRecDepth 20000 in
theorem ggX6_least_X6_nth : GoodIn wsX6_least wsX6_nth := goodIn_r _ [4, 5, 6, 3, 7] (by decide +kernel) (by decide +kernel)
set_option maxRecDepth 20000 in
theorem gX6_least_X6_nth : GoodIn wsX6_least (va_wsS RX6 9 yX6_nth wsX6_nth) := goodIn_app (goodIn_of _ (by decide +kernel)) ggX6_least_X6_nth
set_option maxRecDepth 20000 in
theorem ggX6_nth_X6_has : GoodIn wsX6_nth wsX6_has := goodIn_r _ [4] (by decide +kernel) (by decide +kernel)
set_option maxRecDepth 20000 in
theorem gX6_nth_X6_has : GoodIn wsX6_nth (va_wsS RX6 15 yX6_has wsX6_has) := goodIn_app (goodIn_of _ (by decide +kernel)) ggX6_nth_X6_has
set_option maxRecDepth 20000 in
theorem ggX6_lowest_X6_has : GoodIn wsX6_lowest wsX6_has := goodIn_r _ [8] (by decide +kernel) (by decide +kernel)
set_option maxRecDepth 20000 in
theorem gX6_lowest_X6_has : GoodIn wsX6_lowest (va_wsS RX6 15 yX6_has wsX6_has) := goodIn_app (goodIn_of _ (by decide +kernel)) ggX6_lowest_X6_has
set_option maxRecDepth 20000 in
theorem ggX6_highest_X6_has : GoodIn wsX6_highest wsX6_has := goodIn_r _ [8] (by decide +kernel) (by decide +kernel)
set_option maxRecDepth 20000 in
theorem gX6_highest_X6_has : GoodIn wsX6_highest (va_wsS RX6 15 yX6_has wsX6_has) := goodIn_app (goodIn_of _ (by decide +kernel)) ggX6_highest_X6_has
set_option maxRecDepth 20000 in
theorem ggX7_measure_X7_link : GoodIn wsX7_measure wsX7_link := goodIn_r _ [10, 11, 12, 13, 14, 1, 2, 3, 15, 16, 17, 18, 19, 20, 21, 22, 23, 24, 25, 26, 27, 28, 29, 30, 31, 32, 33, 34, 35, 36, 37, 38, 39, 40, 41, 42, 43, 44, 45, 46, 47] (by decide +kernel) (by decide +kernel)
set_option maxRecDepth 20000 in
theorem gX7_measure_X7_link : GoodIn wsX7_measure (wsV RX7 33 RX7 yX7_link wsX7_link) := goodIn_app (goodIn_of _ (by decide +kernel)) ggX7_measure_X7_link
set_option maxRecDepth 20000 in
theorem ggX7_link_X2_setOf : GoodIn wsX7_link wsX2_setOf := goodIn_r _ [12, 13, 14, 15, 11, 16, 21, 22, 23, 24, 25, 26, 27, 28, 29, 30, 31, 32, 33, 34, 35] (by decide +kernel) (by decide +kernel)
set_option maxRecDepth 20000 in
theorem gX7_link_X2_setOf : GoodIn wsX7_link (wsV RX7 40 RX2 yX2_setOf wsX2_setOf) := goodIn_app (goodIn_of _ (by decide +kernel)) ggX7_link_X2_setOf
set_option maxRecDepth 20000 in
theorem ggX7_link_X6_has : GoodIn wsX7_link wsX6_has := goodIn_r _ [20] (by decide +kernel) (by decide +kernel)
set_option maxRecDepth 20000 in
theorem gX7_link_X6_has : GoodIn wsX7_link (va_wsS RX7 53 yX6_has wsX6_has) := goodIn_app (goodIn_of _ (by decide +kernel)) ggX7_link_X6_has
set_option maxRecDepth 20000 in
theorem ggX8_init_X2_init : GoodIn wsX8_init wsX2_init := goodIn_r _ [37, 38, 2, 3, 39, 40, 41, 42, 43, 44, 45, 31, 46, 47, 48, 49, 50, 51, 52, 53, 54, 55, 56, 57, 58, 59, 60, 61, 62, 63, 64, 65, 149, 150, 151, 152, 105, 106, 107, 108, 109, 110, 111, 112, 113, 114, 115, 116, 117, 118, 119] (by decide +kernel) (by decide +kernel)
set_option maxRecDepth 20000 in
theorem gX8_init_X2_init : GoodIn wsX8_init (wsX2_init) := ggX8_init_X2_init
set_option maxRecDepth 20000 in
theorem ggX8_init_X5_init : GoodIn wsX8_init wsX5_init := goodIn_r _ [68, 69, 2, 3, 70, 31, 71, 72, 73, 74, 75, 132, 133, 134, 135, 136, 137] (by decide +kernel) (by decide +kernel)
set_option maxRecDepth 20000 in
theorem gX8_init_X5_init : GoodIn wsX8_init (wsX5_init) := ggX8_init_X5_init
set_option maxRecDepth 20000 in
theorem ggX8_init_X0_init : GoodIn wsX8_init wsX0_init := goodIn_r _ [78, 79, 2, 3, 80, 31, 81, 82, 138, 139, 140] (by decide +kernel) (by decide +kernel)
set_option maxRecDepth 20000 in
theorem gX8_init_X0_init : GoodIn wsX8_init (wsX0_init) := ggX8_init_X0_init
set_option maxRecDepth 20000 in
theorem ggX8_init_X3_init : GoodIn wsX8_init wsX3_init := goodIn_r _ [85, 86, 2, 3, 87, 31, 88, 141, 142] (by decide +kernel) (by decide +kernel)
set_option maxRecDepth 20000 in
theorem gX8_init_X3_init : GoodIn wsX8_init (wsX3_init) := ggX8_init_X3_init
set_option maxRecDepth 20000 in
theorem ggX8_init_X7_init : GoodIn wsX8_init wsX7_init := goodIn_r _ [91, 92, 2, 3, 93, 31, 94, 143] (by decide +kernel) (by decide +kernel)
set_option maxRecDepth 20000 in
theorem gX8_init_X7_init : GoodIn wsX8_init (wsX7_init) := ggX8_init_X7_init
set_option maxRecDepth 20000 in
theorem ggX8_init_X1_init : GoodIn wsX8_init wsX1_init := goodIn_r _ [97, 98, 2, 3, 99, 100, 31, 101, 102, 103, 104, 144, 145, 146, 147, 148] (by decide +kernel) (by decide +kernel)
set_option maxRecDepth 20000 in
theorem gX8_init_X1_init : GoodIn wsX8_init (wsX1_init) := ggX8_init_X1_init
set_option maxRecDepth 20000 in
theorem ggX8_add_X8_isWeight : GoodIn wsX8_add wsX8_isWeight := goodIn_r _ [7] (by decide +kernel) (by decide +kernel)
set_option maxRecDepth 20000 in
theorem gX8_add_X8_isWeight : GoodIn wsX8_add (va_wsS RX8 71 yX8_isWeight wsX8_isWeight) := goodIn_app (goodIn_of _ (by decide +kernel)) ggX8_add_X8_isWeight
set_option maxRecDepth 20000 in
theorem ggX8_add_X4_canCome : GoodIn wsX8_add wsX4_canCome := goodIn_r _ [12, 13, 14, 15, 16, 11, 17, 18, 19, 156, 157, 158, 159] (by decide +kernel) (by decide +kernel)
set_option maxRecDepth 20000 in
theorem gX8_add_X4_canCome : GoodIn wsX8_add (wsV RX8 79 RX4 yX4_canCome wsX4_canCome) := goodIn_app (goodIn_of _ (by decide +kernel)) ggX8_add_X4_canCome
set_option maxRecDepth 20000 in
theorem ggX8_add_X8_startRepair : GoodIn wsX8_add wsX8_startRepair := goodIn_r _ [23, 3, 1, 2, 24, 25, 26, 11, 27, 13, 18, 19, 28, 129, 130, 131, 132, 133, 134, 135, 136, 137, 138, 139, 140, 141, 142, 143, 144, 145, 146, 147, 148, 149, 150, 151, 152, 153, 154, 155, 156, 157, 158, 159] (by decide +kernel) (by decide +kernel)
set_option maxRecDepth 20000 in
theorem gX8_add_X8_startRepair : GoodIn wsX8_add (wsV RX8 85 RX8 yX8_startRepair wsX8_startRepair) := goodIn_app (goodIn_of _ (by decide +kernel)) ggX8_add_X8_startRepair
set_option maxRecDepth 20000 in
theorem ggX8_add_X4_put : GoodIn wsX8_add wsX4_put := goodIn_r _ [32, 13, 18, 19, 28, 33, 34, 35, 11, 36, 156, 157, 158, 159] (by decide +kernel) (by decide +kernel)
set_option maxRecDepth 20000 in
theorem gX8_add_X4_put : GoodIn wsX8_add (wsV RX8 88 RX4 yX4_put wsX4_put) := goodIn_app (goodIn_of _ (by decide +kernel)) ggX8_add_X4_put
set_option maxRecDepth 20000 in
theorem ggX8_add_X2_rebuild : GoodIn wsX8_add wsX2_rebuild := goodIn_r _ [41, 42, 43, 44, 45, 46, 47, 48, 49, 40, 50, 51, 52, 53, 54, 55, 56, 57, 58, 59, 60, 61, 62, 63, 64, 65, 66, 67, 68, 11, 69, 18, 19, 70, 71, 72, 73, 74, 75, 76, 77, 78, 79, 80, 81, 82, 83, 84, 85, 86, 87, 88, 89, 90, 91, 92, 93, 94, 95, 96, 97, 98, 99, 100, 101, 102, 103, 104, 105, 106, 107, 108, 109, 110, 111, 112, 113, 114, 115, 116, 117, 118, 119, 120, 141, 142, 143, 144, 145, 146, 147, 148, 149, 150, 151, 152, 153, 154, 155, 156, 157, 158, 159] (by decide +kernel) (by decide +kernel)
set_option maxRecDepth 20000 in
theorem gX8_add_X2_rebuild : GoodIn wsX8_add (wsV RX8 92 RX2 yX2_rebuild wsX2_rebuild) := goodIn_app (goodIn_of _ (by decide +kernel)) ggX8_add_X2_rebuild
set_option maxRecDepth 20000 in
theorem ggX8_add_X2_countUnlike : GoodIn wsX8_add wsX2_countUnlike := goodIn_r _ [124, 46, 96, 125, 126, 127, 40, 128, 141, 142, 143, 144, 145, 146, 147, 148, 149, 150, 151, 152, 153, 154, 155] (by decide +kernel) (by decide +kernel)
set_option maxRecDepth 20000 in
theorem gX8_add_X2_countUnlike : GoodIn wsX8_add (wsV RX8 95 RX2 yX2_countUnlike wsX2_countUnlike) := goodIn_app (goodIn_of _ (by decide +kernel)) ggX8_add_X2_countUnlike
set_option maxRecDepth 20000 in
theorem ggX8_take_X8_isPoint : GoodIn wsX8_take wsX8_isPoint := goodIn_r _ [8, 1, 2, 9, 123, 124, 125, 126, 127, 128, 129, 130, 131, 132, 133, 134, 135, 136, 137, 138, 139, 140, 141, 142, 143, 144, 145, 146, 147, 148, 149, 150, 151, 152, 153] (by decide +kernel) (by decide +kernel)
set_option maxRecDepth 20000 in
theorem gX8_take_X8_isPoint : GoodIn wsX8_take (wsV RX8 99 RX8 yX8_isPoint wsX8_isPoint) := goodIn_app (goodIn_of _ (by decide +kernel)) ggX8_take_X8_isPoint
set_option maxRecDepth 20000 in
theorem ggX8_take_X8_startRepair : GoodIn wsX8_take wsX8_startRepair := goodIn_r _ [13, 3, 1, 2, 14, 15, 16, 17, 18, 19, 20, 21, 22, 123, 124, 125, 126, 127, 128, 129, 130, 131, 132, 133, 134, 135, 136, 137, 138, 139, 140, 141, 142, 143, 144, 145, 146, 147, 148, 149, 150, 151, 152, 153] (by decide +kernel) (by decide +kernel)
set_option maxRecDepth 20000 in
theorem gX8_take_X8_startRepair : GoodIn wsX8_take (wsV RX8 85 RX8 yX8_startRepair wsX8_startRepair) := goodIn_app (goodIn_of _ (by decide +kernel)) ggX8_take_X8_startRepair
set_option maxRecDepth 20000 in
theorem ggX8_take_X4_drop : GoodIn wsX8_take wsX4_drop := goodIn_r _ [26, 19, 27, 28, 29, 17, 30, 20, 21, 22, 150, 151, 152, 153] (by decide +kernel) (by decide +kernel)
set_option maxRecDepth 20000 in
theorem gX8_take_X4_drop : GoodIn wsX8_take (wsV RX8 102 RX4 yX4_drop wsX4_drop) := goodIn_app (goodIn_of _ (by decide +kernel)) ggX8_take_X4_drop
set_option maxRecDepth 20000 in
theorem ggX8_take_X2_rebuild : GoodIn wsX8_take wsX2_rebuild := goodIn_r _ [35, 36, 37, 38, 39, 40, 41, 42, 43, 34, 44, 45, 46, 47, 48, 49, 50, 51, 52, 53, 54, 55, 56, 57, 58, 59, 60, 61, 62, 17, 63, 20, 21, 64, 65, 66, 67, 68, 69, 70, 71, 72, 73, 74, 75, 76, 77, 78, 79, 80, 81, 82, 83, 84, 85, 86, 87, 88, 89, 90, 91, 92, 93, 94, 95, 96, 97, 98, 99, 100, 101, 102, 103, 104, 105, 106, 107, 108, 109, 110, 111, 112, 113, 114, 135, 136, 137, 138, 139, 140, 141, 142, 143, 144, 145, 146, 147, 148, 149, 150, 151, 152, 153] (by decide +kernel) (by decide +kernel)
set_option maxRecDepth 20000 in
theorem gX8_take_X2_rebuild : GoodIn wsX8_take (wsV RX8 92 RX2 yX2_rebuild wsX2_rebuild) := goodIn_app (goodIn_of _ (by decide +kernel)) ggX8_take_X2_rebuild
set_option maxRecDepth 20000 in
theorem ggX8_take_X2_countUnlike : GoodIn wsX8_take wsX2_countUnlike := goodIn_r _ [118, 40, 90, 119, 120, 121, 34, 122, 135, 136, 137, 138, 139, 140, 141, 142, 143, 144, 145, 146, 147, 148, 149] (by decide +kernel) (by decide +kernel)
set_option maxRecDepth 20000 in
theorem gX8_take_X2_countUnlike : GoodIn wsX8_take (wsV RX8 95 RX2 yX2_countUnlike wsX2_countUnlike) := goodIn_app (goodIn_of _ (by decide +kernel)) ggX8_take_X2_countUnlike
set_option maxRecDepth 20000 in
theorem ggX8_weigh_X8_isPoint : GoodIn wsX8_weigh wsX8_isPoint := goodIn_r _ [8, 1, 2, 9, 13, 14, 15, 16, 17, 18, 19, 20, 21, 22, 23, 24, 25, 26, 27, 28, 29, 30, 31, 32, 33, 34, 35, 36, 37, 38, 39, 40, 41, 42, 43] (by decide +kernel) (by decide +kernel)
set_option maxRecDepth 20000 in
theorem gX8_weigh_X8_isPoint : GoodIn wsX8_weigh (wsV RX8 99 RX8 yX8_isPoint wsX8_isPoint) := goodIn_app (goodIn_of _ (by decide +kernel)) ggX8_weigh_X8_isPoint
set_option maxRecDepth 20000 in
theorem ggX8_weigh_X8_isWeight : GoodIn wsX8_weigh wsX8_isWeight := goodIn_r _ [12] (by decide +kernel) (by decide +kernel)
set_option maxRecDepth 20000 in
theorem gX8_weigh_X8_isWeight : GoodIn wsX8_weigh (va_wsS RX8 71 yX8_isWeight wsX8_isWeight) := goodIn_app (goodIn_of _ (by decide +kernel)) ggX8_weigh_X8_isWeight
set_option maxRecDepth 20000 in
theorem ggX8_scatter_X8_startRepair : GoodIn wsX8_scatter wsX8_startRepair := goodIn_r _ [7, 8, 1, 2, 9, 10, 11, 12, 13, 14, 15, 16, 17, 125, 126, 127, 128, 129, 130, 131, 132, 133, 134, 135, 136, 137, 138, 139, 140, 141, 142, 143, 144, 145, 146, 147, 148, 149, 150, 151, 152, 153, 154, 155] (by decide +kernel) (by decide +kernel)
set_option maxRecDepth 20000 in
theorem gX8_scatter_X8_startRepair : GoodIn wsX8_scatter (wsV RX8 85 RX8 yX8_startRepair wsX8_startRepair) := goodIn_app (goodIn_of _ (by decide +kernel)) ggX8_scatter_X8_startRepair
set_option maxRecDepth 20000 in
theorem ggX8_scatter_X8_draw : GoodIn wsX8_scatter wsX8_draw := goodIn_r _ [21, 22, 23, 24, 125, 126, 127, 128, 129, 130, 131, 132, 133, 134, 135, 136] (by decide +kernel) (by decide +kernel)
set_option maxRecDepth 20000 in
theorem gX8_scatter_X8_draw : GoodIn wsX8_scatter (wsV RX8 109 RX8 yX8_draw wsX8_draw) := goodIn_app (goodIn_of _ (by decide +kernel)) ggX8_scatter_X8_draw
set_option maxRecDepth 20000 in
theorem ggX8_scatter_X4_canCome : GoodIn wsX8_scatter wsX4_canCome := goodIn_r _ [28, 14, 29, 30, 31, 12, 32, 15, 16, 152, 153, 154, 155] (by decide +kernel) (by decide +kernel)
set_option maxRecDepth 20000 in
theorem gX8_scatter_X4_canCome : GoodIn wsX8_scatter (wsV RX8 79 RX4 yX4_canCome wsX4_canCome) := goodIn_app (goodIn_of _ (by decide +kernel)) ggX8_scatter_X4_canCome
set_option maxRecDepth 20000 in
theorem ggX8_scatter_X4_put : GoodIn wsX8_scatter wsX4_put := goodIn_r _ [36, 14, 15, 16, 17, 37, 38, 39, 12, 40, 152, 153, 154, 155] (by decide +kernel) (by decide +kernel)
set_option maxRecDepth 20000 in
theorem gX8_scatter_X4_put : GoodIn wsX8_scatter (wsV RX8 88 RX4 yX4_put wsX4_put) := goodIn_app (goodIn_of _ (by decide +kernel)) ggX8_scatter_X4_put
set_option maxRecDepth 20000 in
theorem ggX8_scatter_X2_rebuild : GoodIn wsX8_scatter wsX2_rebuild := goodIn_r _ [45, 46, 47, 48, 49, 50, 51, 52, 53, 44, 54, 55, 56, 57, 58, 59, 60, 61, 62, 63, 64, 65, 66, 67, 68, 69, 70, 71, 72, 12, 73, 15, 16, 74, 75, 76, 77, 78, 79, 80, 81, 82, 83, 84, 85, 86, 87, 88, 89, 90, 91, 92, 93, 94, 95, 96, 97, 98, 99, 100, 101, 102, 103, 104, 105, 106, 107, 108, 109, 110, 111, 112, 113, 114, 115, 116, 117, 118, 119, 120, 121, 122, 123, 124, 137, 138, 139, 140, 141, 142, 143, 144, 145, 146, 147, 148, 149, 150, 151, 152, 153, 154, 155] (by decide +kernel) (by decide +kernel)
set_option maxRecDepth 20000 in
theorem gX8_scatter_X2_rebuild : GoodIn wsX8_scatter (wsV RX8 92 RX2 yX2_rebuild wsX2_rebuild) := goodIn_app (goodIn_of _ (by decide +kernel)) ggX8_scatter_X2_rebuild
set_option maxRecDepth 20000 in
theorem ggX8_clear_X8_startRepair : GoodIn wsX8_clear wsX8_startRepair := goodIn_r _ [8, 9, 1, 2, 10, 11, 12, 13, 14, 15, 16, 17, 18, 103, 104, 105, 106, 107, 108, 109, 110, 111, 112, 113, 114, 115, 116, 117, 118, 119, 120, 121, 122, 123, 124, 125, 126, 127, 128, 129, 130, 131, 132, 133] (by decide +kernel) (by decide +kernel)
set_option maxRecDepth 20000 in
theorem gX8_clear_X8_startRepair : GoodIn wsX8_clear (wsV RX8 85 RX8 yX8_startRepair wsX8_startRepair) := goodIn_app (goodIn_of _ (by decide +kernel)) ggX8_clear_X8_startRepair
set_option maxRecDepth 20000 in
theorem ggX8_clear_X2_rebuild : GoodIn wsX8_clear wsX2_rebuild := goodIn_r _ [23, 24, 25, 26, 27, 28, 29, 30, 31, 22, 32, 33, 34, 35, 36, 37, 38, 39, 40, 41, 42, 43, 44, 45, 46, 47, 48, 49, 50, 13, 51, 16, 17, 52, 53, 54, 55, 56, 57, 58, 59, 60, 61, 62, 63, 64, 65, 66, 67, 68, 69, 70, 71, 72, 73, 74, 75, 76, 77, 78, 79, 80, 81, 82, 83, 84, 85, 86, 87, 88, 89, 90, 91, 92, 93, 94, 95, 96, 97, 98, 99, 100, 101, 102, 115, 116, 117, 118, 119, 120, 121, 122, 123, 124, 125, 126, 127, 128, 129, 130, 131, 132, 133] (by decide +kernel) (by decide +kernel)
set_option maxRecDepth 20000 in
theorem gX8_clear_X2_rebuild : GoodIn wsX8_clear (wsV RX8 92 RX2 yX2_rebuild wsX2_rebuild) := goodIn_app (goodIn_of _ (by decide +kernel)) ggX8_clear_X2_rebuild
set_option maxRecDepth 20000 in
theorem ggX8_point_X8_isPoint : GoodIn wsX8_point wsX8_isPoint := goodIn_r _ [10, 1, 2, 11, 41, 42, 43, 44, 45, 46, 47, 48, 49, 50, 51, 52, 53, 54, 55, 56, 57, 58, 59, 60, 61, 62, 63, 64, 65, 66, 67, 68, 69, 70, 71] (by decide +kernel) (by decide +kernel)
set_option maxRecDepth 20000 in
theorem gX8_point_X8_isPoint : GoodIn wsX8_point (wsV RX8 99 RX8 yX8_isPoint wsX8_isPoint) := goodIn_app (goodIn_of _ (by decide +kernel)) ggX8_point_X8_isPoint
set_option maxRecDepth 20000 in
theorem ggX8_point_X4_nearestTo : GoodIn wsX8_point wsX4_nearestTo := goodIn_r _ [16, 17, 18, 19, 20, 15, 21, 22, 23, 24, 25, 26, 27, 68, 69, 70, 71] (by decide +kernel) (by decide +kernel)
set_option maxRecDepth 20000 in
theorem gX8_point_X4_nearestTo : GoodIn wsX8_point (wsV RX8 122 RX4 yX4_nearestTo wsX4_nearestTo) := goodIn_app (goodIn_of _ (by decide +kernel)) ggX8_point_X4_nearestTo
set_option maxRecDepth 20000 in
theorem ggX8_point_X4_apartFromNearest : GoodIn wsX8_point wsX4_apartFromNearest := goodIn_r _ [31, 32, 13, 14, 15, 16, 17, 18, 19, 20, 21, 22, 23, 24, 25, 26, 27, 68, 69, 70, 71] (by decide +kernel) (by decide +kernel)
set_option maxRecDepth 20000 in
theorem gX8_point_X4_apartFromNearest : GoodIn wsX8_point (wsV RX8 125 RX4 yX4_apartFromNearest wsX4_apartFromNearest) := goodIn_app (goodIn_of _ (by decide +kernel)) ggX8_point_X4_apartFromNearest
set_option maxRecDepth 20000 in
theorem ggX8_point_X2_linksOf : GoodIn wsX8_point wsX2_linksOf := goodIn_r _ [37, 38, 39, 40, 53, 54, 55, 56, 57, 58, 59, 60, 61, 62, 63, 64, 65, 66, 67] (by decide +kernel) (by decide +kernel)
set_option maxRecDepth 20000 in
theorem gX8_point_X2_linksOf : GoodIn wsX8_point (wsV RX8 128 RX2 yX2_linksOf wsX2_linksOf) := goodIn_app (goodIn_of _ (by decide +kernel)) ggX8_point_X2_linksOf
set_option maxRecDepth 20000 in
theorem ggX8_at_X4_find : GoodIn wsX8_at wsX4_find := goodIn_r _ [7, 8, 9, 10, 38, 39, 40, 41] (by decide +kernel) (by decide +kernel)
set_option maxRecDepth 20000 in
theorem gX8_at_X4_find : GoodIn wsX8_at (wsV RX8 131 RX4 yX4_find wsX4_find) := goodIn_app (goodIn_of _ (by decide +kernel)) ggX8_at_X4_find
set_option maxRecDepth 20000 in
theorem ggX8_near_X8_isNearPlace : GoodIn wsX8_near wsX8_isNearPlace := goodIn_r _ [8] (by decide +kernel) (by decide +kernel)
set_option maxRecDepth 20000 in
theorem gX8_near_X8_isNearPlace : GoodIn wsX8_near (va_wsS RX8 135 yX8_isNearPlace wsX8_isNearPlace) := goodIn_app (goodIn_of _ (by decide +kernel)) ggX8_near_X8_isNearPlace
set_option maxRecDepth 20000 in
theorem ggX8_near_X4_squares : GoodIn wsX8_near wsX4_squares := goodIn_r _ [13, 14, 15, 47, 48, 49, 50] (by decide +kernel) (by decide +kernel)
set_option maxRecDepth 20000 in
theorem gX8_near_X4_squares : GoodIn wsX8_near (wsV RX8 138 RX4 yX4_squares wsX4_squares) := goodIn_app (goodIn_of _ (by decide +kernel)) ggX8_near_X4_squares
set_option maxRecDepth 20000 in
theorem ggX8_near_X8_rankInRow : GoodIn wsX8_near wsX8_rankInRow := goodIn_r _ [19, 4, 20, 21, 22, 23, 24, 25, 26, 27, 28, 29, 30, 31] (by decide +kernel) (by decide +kernel)
set_option maxRecDepth 20000 in
theorem gX8_near_X8_rankInRow : GoodIn wsX8_near (wsV RX8 142 RX8 yX8_rankInRow wsX8_rankInRow) := goodIn_app (goodIn_of _ (by decide +kernel)) ggX8_near_X8_rankInRow
set_option maxRecDepth 20000 in
theorem ggX8_join_J6_bitCount_0f7a4 : GoodIn wsX8_join wsJ6_bitCount_0f7a4 := goodIn_r _ [16, 17, 18, 19] (by decide +kernel) (by decide +kernel)
set_option maxRecDepth 20000 in
theorem gX8_join_J6_bitCount_0f7a4 : GoodIn wsX8_join (va_wsS RX8 158 yJ6_bitCount_0f7a4 wsJ6_bitCount_0f7a4) := goodIn_app (goodIn_of _ (by decide +kernel)) ggX8_join_J6_bitCount_0f7a4
set_option maxRecDepth 20000 in
theorem ggX8_join_X4_weightOf : GoodIn wsX8_join wsX4_weightOf := goodIn_r _ [24, 25, 26, 27, 28, 29, 30, 82, 83, 84, 85] (by decide +kernel) (by decide +kernel)
set_option maxRecDepth 20000 in
theorem gX8_join_X4_weightOf : GoodIn wsX8_join (wsV RX8 163 RX4 yX4_weightOf wsX4_weightOf) := goodIn_app (goodIn_of _ (by decide +kernel)) ggX8_join_X4_weightOf
set_option maxRecDepth 20000 in
theorem ggX8_join_X2_lastsOf : GoodIn wsX8_join wsX2_lastsOf := goodIn_r _ [35, 36, 37, 38, 39, 40, 41, 34, 42, 43, 44, 45, 46, 47, 48, 49, 21, 22, 23, 24, 25, 26, 27, 28, 29, 30, 67, 68, 69, 70, 71, 72, 73, 74, 75, 76, 77, 78, 79, 80, 81, 82, 83, 84, 85] (by decide +kernel) (by decide +kernel)
set_option maxRecDepth 20000 in
theorem gX8_join_X2_lastsOf : GoodIn wsX8_join (wsV RX8 175 RX2 yX2_lastsOf wsX2_lastsOf) := goodIn_app (goodIn_of _ (by decide +kernel)) ggX8_join_X2_lastsOf
set_option maxRecDepth 20000 in
theorem ggX8_join_X2_hasPair : GoodIn wsX8_join wsX2_hasPair := goodIn_r _ [53, 47, 54, 67, 68, 69, 70, 71, 72, 73, 74, 75, 76, 77, 78, 79, 80, 81] (by decide +kernel) (by decide +kernel)
set_option maxRecDepth 20000 in
theorem gX8_join_X2_hasPair : GoodIn wsX8_join (wsV RX8 182 RX2 yX2_hasPair wsX2_hasPair) := goodIn_app (goodIn_of _ (by decide +kernel)) ggX8_join_X2_hasPair
set_option maxRecDepth 20000 in
theorem ggX8_meets_X8_isPoint : GoodIn wsX8_meets wsX8_isPoint := goodIn_r _ [6, 1, 7, 8, 20, 21, 22, 23, 24, 25, 26, 27, 28, 29, 30, 31, 32, 33, 34, 35, 36, 37, 38, 39, 40, 41, 42, 43, 44, 45, 46, 47, 48, 49, 50] (by decide +kernel) (by decide +kernel)
set_option maxRecDepth 20000 in
theorem gX8_meets_X8_isPoint : GoodIn wsX8_meets (wsV RX8 99 RX8 yX8_isPoint wsX8_isPoint) := goodIn_app (goodIn_of _ (by decide +kernel)) ggX8_meets_X8_isPoint
set_option maxRecDepth 20000 in
theorem ggX8_meets_X2_meeting : GoodIn wsX8_meets wsX2_meeting := goodIn_r _ [13, 14, 15, 16, 17, 18, 19, 32, 33, 34, 35, 36, 37, 38, 39, 40, 41, 42, 43, 44, 45, 46] (by decide +kernel) (by decide +kernel)
set_option maxRecDepth 20000 in
theorem gX8_meets_X2_meeting : GoodIn wsX8_meets (wsV RX8 186 RX2 yX2_meeting wsX2_meeting) := goodIn_app (goodIn_of _ (by decide +kernel)) ggX8_meets_X2_meeting
set_option maxRecDepth 20000 in
theorem ggX8_path_X8_isPoint : GoodIn wsX8_path wsX8_isPoint := goodIn_r _ [10, 2, 4, 5, 42, 43, 44, 45, 46, 47, 48, 49, 50, 51, 52, 53, 55, 56, 57, 58, 59, 60, 61, 62, 63, 64, 65, 66, 67, 68, 69, 70, 71, 72, 73] (by decide +kernel) (by decide +kernel)
set_option maxRecDepth 20000 in
theorem gX8_path_X8_isPoint : GoodIn wsX8_path (wsV RX8 99 RX8 yX8_isPoint wsX8_isPoint) := goodIn_app (goodIn_of _ (by decide +kernel)) ggX8_path_X8_isPoint
set_option maxRecDepth 20000 in
theorem ggX8_path_X7_measure : GoodIn wsX8_path wsX7_measure := goodIn_r _ [15, 16, 17, 18, 19, 20, 21, 22, 23, 14, 24, 25, 26, 27, 28, 29, 30, 31, 32, 33, 34, 35, 36, 37, 38, 39, 40, 41, 55, 56, 57, 58, 59, 60, 61, 62, 63, 64, 65, 66, 67, 68, 69, 70, 71, 72, 73, 54] (by decide +kernel) (by decide +kernel)
set_option maxRecDepth 20000 in
theorem gX8_path_X7_measure : GoodIn wsX8_path (wsV RX8 189 RX7 yX7_measure wsX7_measure) := goodIn_app (goodIn_of _ (by decide +kernel)) ggX8_path_X7_measure
set_option maxRecDepth 20000 in
theorem ggX8_longest_X7_measure : GoodIn wsX8_longest wsX7_measure := goodIn_r _ [10, 11, 12, 13, 14, 15, 16, 17, 18, 9, 19, 20, 21, 22, 23, 24, 25, 26, 27, 28, 29, 30, 31, 32, 33, 34, 35, 36, 49, 50, 51, 52, 53, 54, 55, 56, 57, 58, 59, 60, 61, 62, 63, 64, 65, 66, 67, 68] (by decide +kernel) (by decide +kernel)
set_option maxRecDepth 20000 in
theorem gX8_longest_X7_measure : GoodIn wsX8_longest (wsV RX8 189 RX7 yX7_measure wsX7_measure) := goodIn_app (goodIn_of _ (by decide +kernel)) ggX8_longest_X7_measure
set_option maxRecDepth 20000 in
theorem ggX8_zoom_X8_meets : GoodIn wsX8_zoom wsX8_meets := goodIn_r _ [7, 1, 8, 9, 10, 6, 11, 12, 13, 14, 15, 16, 17, 18, 19, 20, 21, 22, 23, 24, 30, 31, 32, 33, 34, 35, 36, 37, 38, 39, 40, 41, 42, 43, 44, 45, 46, 47, 48, 49, 50, 51, 52, 53, 54, 55, 56, 57, 58, 59, 60] (by decide +kernel) (by decide +kernel)
set_option maxRecDepth 20000 in
theorem gX8_zoom_X8_meets : GoodIn wsX8_zoom (wsV RX8 197 RX8 yX8_meets wsX8_meets) := goodIn_app (goodIn_of _ (by decide +kernel)) ggX8_zoom_X8_meets
set_option maxRecDepth 20000 in
theorem ggX8_zoom_X2_joinsWithin : GoodIn wsX8_zoom wsX2_joinsWithin := goodIn_r _ [28, 19, 29, 42, 43, 44, 45, 46, 47, 48, 49, 50, 51, 52, 53, 54, 55, 56] (by decide +kernel) (by decide +kernel)
set_option maxRecDepth 20000 in
theorem gX8_zoom_X2_joinsWithin : GoodIn wsX8_zoom (wsV RX8 200 RX2 yX2_joinsWithin wsX2_joinsWithin) := goodIn_app (goodIn_of _ (by decide +kernel)) ggX8_zoom_X2_joinsWithin
set_option maxRecDepth 20000 in
theorem ggX8_groups_X8_isZoom : GoodIn wsX8_groups wsX8_isZoom := goodIn_r _ [7] (by decide +kernel) (by decide +kernel)
set_option maxRecDepth 20000 in
theorem gX8_groups_X8_isZoom : GoodIn wsX8_groups (va_wsS RX8 203 yX8_isZoom wsX8_isZoom) := goodIn_app (goodIn_of _ (by decide +kernel)) ggX8_groups_X8_isZoom
set_option maxRecDepth 20000 in
theorem ggX8_groups_X2_joinsWithin : GoodIn wsX8_groups wsX2_joinsWithin := goodIn_r _ [12, 13, 14, 27, 28, 29, 30, 31, 32, 33, 34, 35, 36, 37, 38, 39, 40, 41] (by decide +kernel) (by decide +kernel)
set_option maxRecDepth 20000 in
theorem gX8_groups_X2_joinsWithin : GoodIn wsX8_groups (wsV RX8 200 RX2 yX2_joinsWithin wsX2_joinsWithin) := goodIn_app (goodIn_of _ (by decide +kernel)) ggX8_groups_X2_joinsWithin
set_option maxRecDepth 20000 in
theorem ggX8_groupOf_X8_isZoom : GoodIn wsX8_groupOf wsX8_isZoom := goodIn_r _ [7] (by decide +kernel) (by decide +kernel)
set_option maxRecDepth 20000 in
theorem gX8_groupOf_X8_isZoom : GoodIn wsX8_groupOf (va_wsS RX8 203 yX8_isZoom wsX8_isZoom) := goodIn_app (goodIn_of _ (by decide +kernel)) ggX8_groupOf_X8_isZoom
set_option maxRecDepth 20000 in
theorem ggX8_groupOf_X8_isPoint : GoodIn wsX8_groupOf wsX8_isPoint := goodIn_r _ [11, 2, 12, 13, 55, 56, 57, 58, 59, 60, 61, 62, 63, 64, 65, 66, 73, 74, 75, 76, 77, 78, 79, 80, 81, 82, 83, 84, 85, 86, 87, 88, 89, 90, 91] (by decide +kernel) (by decide +kernel)
set_option maxRecDepth 20000 in
theorem gX8_groupOf_X8_isPoint : GoodIn wsX8_groupOf (wsV RX8 99 RX8 yX8_isPoint wsX8_isPoint) := goodIn_app (goodIn_of _ (by decide +kernel)) ggX8_groupOf_X8_isPoint
set_option maxRecDepth 20000 in
theorem ggX8_groupOf_X5_cut : GoodIn wsX8_groupOf wsX5_cut := goodIn_r _ [18, 19, 20, 21, 22, 23, 24, 25, 26, 27, 28, 29, 30, 31, 32, 33, 34, 35, 36, 37, 38, 39, 40, 41, 42, 43, 44, 45, 46, 17, 47, 48, 49, 50, 51, 52, 53, 54, 67, 68, 69, 70, 71, 72, 73, 74, 75, 76, 77, 78, 79, 80, 81, 82, 83, 84, 85, 86, 87, 88, 89, 90, 91] (by decide +kernel) (by decide +kernel)
set_option maxRecDepth 20000 in
theorem gX8_groupOf_X5_cut : GoodIn wsX8_groupOf (wsV RX8 206 RX5 yX5_cut wsX5_cut) := goodIn_app (goodIn_of _ (by decide +kernel)) ggX8_groupOf_X5_cut
set_option maxRecDepth 20000 in
theorem ggX8_group_X8_cutsGroup : GoodIn wsX8_group wsX8_cutsGroup := goodIn_r _ [14, 3, 1, 15, 16, 17, 13, 18, 19, 20, 21, 22, 23, 24, 25, 26, 27, 28, 29, 30, 31, 32, 33, 34, 35, 36, 37, 38, 39, 40, 41, 42, 43, 44, 45, 46, 47, 48, 49, 50, 51, 52, 53, 54, 55, 56, 57, 58, 59, 120, 121, 122, 123, 124, 125, 126, 127, 128, 129, 130, 131, 147, 148, 149, 150, 151, 152, 132, 133, 134, 135, 136, 137, 138, 139, 140, 141, 142, 143, 144, 145, 146, 153, 154, 155, 156] (by decide +kernel) (by decide +kernel)
set_option maxRecDepth 20000 in
theorem gX8_group_X8_cutsGroup : GoodIn wsX8_group (wsV RX8 213 RX8 yX8_cutsGroup wsX8_cutsGroup) := goodIn_app (goodIn_of _ (by decide +kernel)) ggX8_group_X8_cutsGroup
set_option maxRecDepth 20000 in
theorem ggX8_group_X6_least : GoodIn wsX8_group wsX6_least := goodIn_r _ [62, 63, 64, 37, 65, 66, 36, 38] (by decide +kernel) (by decide +kernel)
set_option maxRecDepth 20000 in
theorem gX8_group_X6_least : GoodIn wsX8_group (va_wsS RX8 219 yX6_least wsX6_least) := goodIn_app (goodIn_of _ (by decide +kernel)) ggX8_group_X6_least
set_option maxRecDepth 20000 in
theorem ggX8_group_J6_bitCount_0f7a4 : GoodIn wsX8_group wsJ6_bitCount_0f7a4 := goodIn_r _ [70, 71, 72, 73] (by decide +kernel) (by decide +kernel)
set_option maxRecDepth 20000 in
theorem gX8_group_J6_bitCount_0f7a4 : GoodIn wsX8_group (va_wsS RX8 158 yJ6_bitCount_0f7a4 wsJ6_bitCount_0f7a4) := goodIn_app (goodIn_of _ (by decide +kernel)) ggX8_group_J6_bitCount_0f7a4
set_option maxRecDepth 20000 in
theorem ggX8_group_X6_lowest : GoodIn wsX8_group wsX6_lowest := goodIn_r _ [76, 77, 44, 45, 46, 66, 36, 37, 38] (by decide +kernel) (by decide +kernel)
set_option maxRecDepth 20000 in
theorem gX8_group_X6_lowest : GoodIn wsX8_group (va_wsS RX8 227 yX6_lowest wsX6_lowest) := goodIn_app (goodIn_of _ (by decide +kernel)) ggX8_group_X6_lowest
set_option maxRecDepth 20000 in
theorem ggX8_group_X6_highest : GoodIn wsX8_group wsX6_highest := goodIn_r _ [80, 81, 82, 45, 83, 66, 36, 37, 38] (by decide +kernel) (by decide +kernel)
set_option maxRecDepth 20000 in
theorem gX8_group_X6_highest : GoodIn wsX8_group (va_wsS RX8 231 yX6_highest wsX6_highest) := goodIn_app (goodIn_of _ (by decide +kernel)) ggX8_group_X6_highest
set_option maxRecDepth 20000 in
theorem ggX8_group_X4_heaviestOf : GoodIn wsX8_group wsX4_heaviestOf := goodIn_r _ [88, 89, 90, 91, 36, 37, 38, 153, 154, 155, 156] (by decide +kernel) (by decide +kernel)
set_option maxRecDepth 20000 in
theorem gX8_group_X4_heaviestOf : GoodIn wsX8_group (wsV RX8 236 RX4 yX4_heaviestOf wsX4_heaviestOf) := goodIn_app (goodIn_of _ (by decide +kernel)) ggX8_group_X4_heaviestOf
set_option maxRecDepth 20000 in
theorem ggX8_group_X2_makerOf : GoodIn wsX8_group wsX2_makerOf := goodIn_r _ [95, 33, 47, 132, 133, 134, 135, 136, 137, 138, 139, 140, 141, 142, 143, 144, 145, 146] (by decide +kernel) (by decide +kernel)
set_option maxRecDepth 20000 in
theorem gX8_group_X2_makerOf : GoodIn wsX8_group (wsV RX8 239 RX2 yX2_makerOf wsX2_makerOf) := goodIn_app (goodIn_of _ (by decide +kernel)) ggX8_group_X2_makerOf
set_option maxRecDepth 20000 in
theorem ggX8_group_X8_countSplits : GoodIn wsX8_group wsX8_countSplits := goodIn_r _ [99, 100, 1, 19, 20, 21, 22, 23, 24, 25, 26, 27, 28, 29, 30, 31, 32, 33, 34, 35, 36, 37, 38, 39, 40, 41, 42, 43, 44, 45, 46, 47, 48, 49, 50, 51, 52, 53, 54, 55, 56, 57, 58, 59, 101, 102, 103, 104, 67, 68, 69, 70, 71, 72, 73, 120, 121, 122, 123, 124, 125, 126, 127, 128, 129, 130, 131, 147, 148, 149, 150, 151, 152, 132, 133, 134, 135, 136, 137, 138, 139, 140, 141, 142, 143, 144, 145, 146, 153, 154, 155, 156] (by decide +kernel) (by decide +kernel)
set_option maxRecDepth 20000 in
theorem gX8_group_X8_countSplits : GoodIn wsX8_group (wsV RX8 242 RX8 yX8_countSplits wsX8_countSplits) := goodIn_app (goodIn_of _ (by decide +kernel)) ggX8_group_X8_countSplits
set_option maxRecDepth 20000 in
theorem ggX8_group_X4_wide : GoodIn wsX8_group wsX4_wide := goodIn_r _ [108, 89, 109, 82, 45, 83, 91, 36, 37, 38, 110, 111, 112, 87, 113, 114, 115, 116, 117, 118, 119, 153, 154, 155, 156] (by decide +kernel) (by decide +kernel)
set_option maxRecDepth 20000 in
theorem gX8_group_X4_wide : GoodIn wsX8_group (wsV RX8 245 RX4 yX4_wide wsX4_wide) := goodIn_app (goodIn_of _ (by decide +kernel)) ggX8_group_X4_wide
set_option maxRecDepth 20000 in
theorem ggX8_member_X8_cutsGroup : GoodIn wsX8_member wsX8_cutsGroup := goodIn_r _ [7, 1, 8, 9, 10, 11, 6, 12, 13, 14, 15, 16, 17, 18, 19, 20, 21, 22, 23, 24, 25, 26, 27, 28, 29, 30, 31, 32, 33, 34, 35, 36, 37, 38, 39, 40, 41, 42, 43, 44, 45, 46, 47, 48, 49, 50, 51, 52, 53, 58, 59, 60, 61, 62, 63, 64, 65, 66, 67, 68, 69, 70, 71, 72, 73, 74, 75, 76, 77, 78, 79, 80, 81, 82, 83, 84, 85, 86, 87, 88, 89, 90, 91, 92, 93, 94] (by decide +kernel) (by decide +kernel)
set_option maxRecDepth 20000 in
theorem gX8_member_X8_cutsGroup : GoodIn wsX8_member (wsV RX8 213 RX8 yX8_cutsGroup wsX8_cutsGroup) := goodIn_app (goodIn_of _ (by decide +kernel)) ggX8_member_X8_cutsGroup
set_option maxRecDepth 20000 in
theorem ggX8_member_X6_nth : GoodIn wsX8_member wsX6_nth := goodIn_r _ [56, 57, 30, 31, 32] (by decide +kernel) (by decide +kernel)
set_option maxRecDepth 20000 in
theorem gX8_member_X6_nth : GoodIn wsX8_member (va_wsS RX8 248 yX6_nth wsX6_nth) := goodIn_app (goodIn_of _ (by decide +kernel)) ggX8_member_X6_nth
set_option maxRecDepth 20000 in
theorem ggX8_splits_X8_cutsGroup : GoodIn wsX8_splits wsX8_cutsGroup := goodIn_r _ [9, 3, 2, 10, 11, 12, 8, 13, 14, 15, 16, 17, 18, 19, 20, 21, 22, 23, 24, 25, 26, 27, 28, 29, 30, 31, 32, 33, 34, 35, 36, 37, 38, 39, 40, 41, 42, 43, 44, 45, 46, 47, 48, 49, 50, 51, 52, 53, 54, 63, 64, 65, 66, 67, 68, 69, 70, 71, 72, 73, 74, 75, 76, 77, 78, 79, 80, 81, 82, 83, 84, 85, 86, 87, 88, 89, 90, 91, 92, 93, 94, 95, 96, 97, 98, 99] (by decide +kernel) (by decide +kernel)
set_option maxRecDepth 20000 in
theorem gX8_splits_X8_cutsGroup : GoodIn wsX8_splits (wsV RX8 213 RX8 yX8_cutsGroup wsX8_cutsGroup) := goodIn_app (goodIn_of _ (by decide +kernel)) ggX8_splits_X8_cutsGroup
set_option maxRecDepth 20000 in
theorem ggX8_splits_X5_cut : GoodIn wsX8_splits wsX5_cut := goodIn_r _ [18, 19, 20, 21, 22, 23, 24, 25, 26, 27, 28, 29, 30, 31, 32, 33, 34, 35, 36, 37, 38, 39, 40, 41, 42, 43, 44, 45, 46, 17, 47, 48, 49, 50, 51, 52, 53, 54, 75, 76, 77, 78, 79, 80, 81, 82, 83, 84, 85, 86, 87, 88, 89, 90, 91, 92, 93, 94, 95, 96, 97, 98, 99] (by decide +kernel) (by decide +kernel)
set_option maxRecDepth 20000 in
theorem gX8_splits_X5_cut : GoodIn wsX8_splits (wsV RX8 206 RX5 yX5_cut wsX5_cut) := goodIn_app (goodIn_of _ (by decide +kernel)) ggX8_splits_X5_cut
set_option maxRecDepth 20000 in
theorem ggX8_splits_X5_groupsWithin : GoodIn wsX8_splits wsX5_groupsWithin := goodIn_r _ [58, 19, 22, 75, 76, 77, 78, 79, 80] (by decide +kernel) (by decide +kernel)
set_option maxRecDepth 20000 in
theorem gX8_splits_X5_groupsWithin : GoodIn wsX8_splits (wsV RX8 251 RX5 yX5_groupsWithin wsX5_groupsWithin) := goodIn_app (goodIn_of _ (by decide +kernel)) ggX8_splits_X5_groupsWithin
set_option maxRecDepth 20000 in
theorem ggX8_splits_X6_nth : GoodIn wsX8_splits wsX6_nth := goodIn_r _ [61, 62, 31, 32, 33] (by decide +kernel) (by decide +kernel)
set_option maxRecDepth 20000 in
theorem gX8_splits_X6_nth : GoodIn wsX8_splits (va_wsS RX8 248 yX6_nth wsX6_nth) := goodIn_app (goodIn_of _ (by decide +kernel)) ggX8_splits_X6_nth
set_option maxRecDepth 20000 in
theorem ggX8_window_X8_isZoom : GoodIn wsX8_window wsX8_isZoom := goodIn_r _ [7] (by decide +kernel) (by decide +kernel)
set_option maxRecDepth 20000 in
theorem gX8_window_X8_isZoom : GoodIn wsX8_window (va_wsS RX8 203 yX8_isZoom wsX8_isZoom) := goodIn_app (goodIn_of _ (by decide +kernel)) ggX8_window_X8_isZoom
set_option maxRecDepth 20000 in
theorem ggX8_window_X5_cut : GoodIn wsX8_window wsX5_cut := goodIn_r _ [12, 13, 14, 15, 16, 17, 18, 19, 20, 21, 22, 23, 24, 25, 26, 27, 28, 29, 30, 31, 32, 33, 34, 35, 36, 37, 38, 39, 40, 11, 41, 42, 43, 44, 45, 46, 47, 48, 105, 106, 107, 108, 109, 110, 90, 91, 92, 93, 94, 95, 96, 97, 98, 99, 100, 101, 102, 103, 104, 111, 112, 113, 114] (by decide +kernel) (by decide +kernel)
set_option maxRecDepth 20000 in
theorem gX8_window_X5_cut : GoodIn wsX8_window (wsV RX8 206 RX5 yX5_cut wsX5_cut) := goodIn_app (goodIn_of _ (by decide +kernel)) ggX8_window_X5_cut
set_option maxRecDepth 20000 in
theorem ggX8_window_X5_centresIn : GoodIn wsX8_window wsX5_centresIn := goodIn_r _ [52, 13, 47, 48, 105, 106, 107, 108, 109, 110] (by decide +kernel) (by decide +kernel)
set_option maxRecDepth 20000 in
theorem gX8_window_X5_centresIn : GoodIn wsX8_window (wsV RX8 254 RX5 yX5_centresIn wsX5_centresIn) := goodIn_app (goodIn_of _ (by decide +kernel)) ggX8_window_X5_centresIn
set_option maxRecDepth 20000 in
theorem ggX8_window_X4_within : GoodIn wsX8_window wsX4_within := goodIn_r _ [57, 58, 59, 60, 111, 112, 113, 114] (by decide +kernel) (by decide +kernel)
set_option maxRecDepth 20000 in
theorem gX8_window_X4_within : GoodIn wsX8_window (wsV RX8 258 RX4 yX4_within wsX4_within) := goodIn_app (goodIn_of _ (by decide +kernel)) ggX8_window_X4_within
set_option maxRecDepth 20000 in
theorem ggX8_window_J6_bitCount_0f7a4 : GoodIn wsX8_window wsJ6_bitCount_0f7a4 := goodIn_r _ [64, 65, 66, 67] (by decide +kernel) (by decide +kernel)
set_option maxRecDepth 20000 in
theorem gX8_window_J6_bitCount_0f7a4 : GoodIn wsX8_window (va_wsS RX8 158 yJ6_bitCount_0f7a4 wsJ6_bitCount_0f7a4) := goodIn_app (goodIn_of _ (by decide +kernel)) ggX8_window_J6_bitCount_0f7a4
set_option maxRecDepth 20000 in
theorem ggX8_window_X5_weightOf : GoodIn wsX8_window wsX5_weightOf := goodIn_r _ [71, 13, 46, 24, 25, 26, 27, 105, 106, 107, 108, 109, 110] (by decide +kernel) (by decide +kernel)
set_option maxRecDepth 20000 in
theorem gX8_window_X5_weightOf : GoodIn wsX8_window (wsV RX8 261 RX5 yX5_weightOf wsX5_weightOf) := goodIn_app (goodIn_of _ (by decide +kernel)) ggX8_window_X5_weightOf
set_option maxRecDepth 20000 in
theorem ggX8_window_X4_weightOf : GoodIn wsX8_window wsX4_weightOf := goodIn_r _ [75, 58, 76, 77, 25, 26, 27, 111, 112, 113, 114] (by decide +kernel) (by decide +kernel)
set_option maxRecDepth 20000 in
theorem gX8_window_X4_weightOf : GoodIn wsX8_window (wsV RX8 163 RX4 yX4_weightOf wsX4_weightOf) := goodIn_app (goodIn_of _ (by decide +kernel)) ggX8_window_X4_weightOf
set_option maxRecDepth 20000 in
theorem ggX8_top_X8_isZoom : GoodIn wsX8_top wsX8_isZoom := goodIn_r _ [6] (by decide +kernel) (by decide +kernel)
set_option maxRecDepth 20000 in
theorem gX8_top_X8_isZoom : GoodIn wsX8_top (va_wsS RX8 203 yX8_isZoom wsX8_isZoom) := goodIn_app (goodIn_of _ (by decide +kernel)) ggX8_top_X8_isZoom
set_option maxRecDepth 20000 in
theorem ggX8_top_X5_cut : GoodIn wsX8_top wsX5_cut := goodIn_r _ [11, 12, 13, 14, 15, 16, 17, 18, 19, 20, 21, 22, 23, 24, 25, 26, 27, 28, 29, 30, 31, 32, 33, 34, 35, 36, 37, 38, 39, 10, 40, 41, 42, 43, 44, 45, 46, 47, 72, 73, 74, 75, 76, 77, 78, 79, 80, 81, 82, 83, 84, 85, 86, 87, 88, 89, 90, 91, 92, 93, 94, 95, 96] (by decide +kernel) (by decide +kernel)
set_option maxRecDepth 20000 in
theorem gX8_top_X5_cut : GoodIn wsX8_top (wsV RX8 206 RX5 yX5_cut wsX5_cut) := goodIn_app (goodIn_of _ (by decide +kernel)) ggX8_top_X5_cut
set_option maxRecDepth 20000 in
theorem ggX8_top_X5_centresIn : GoodIn wsX8_top wsX5_centresIn := goodIn_r _ [51, 12, 46, 47, 72, 73, 74, 75, 76, 77] (by decide +kernel) (by decide +kernel)
set_option maxRecDepth 20000 in
theorem gX8_top_X5_centresIn : GoodIn wsX8_top (wsV RX8 254 RX5 yX5_centresIn wsX5_centresIn) := goodIn_app (goodIn_of _ (by decide +kernel)) ggX8_top_X5_centresIn
set_option maxRecDepth 20000 in
theorem ggX8_top_X5_heaviest : GoodIn wsX8_top wsX5_heaviest := goodIn_r _ [55, 12, 23, 24, 25, 26, 56, 57, 58, 10, 59, 45, 72, 73, 74, 75, 76, 77] (by decide +kernel) (by decide +kernel)
set_option maxRecDepth 20000 in
theorem gX8_top_X5_heaviest : GoodIn wsX8_top (wsV RX8 262 RX5 yX5_heaviest wsX5_heaviest) := goodIn_app (goodIn_of _ (by decide +kernel)) ggX8_top_X5_heaviest
set_option maxRecDepth 20000 in
theorem ggX8_filled_X8_isZoom : GoodIn wsX8_filled wsX8_isZoom := goodIn_r _ [10] (by decide +kernel) (by decide +kernel)
set_option maxRecDepth 20000 in
theorem gX8_filled_X8_isZoom : GoodIn wsX8_filled (va_wsS RX8 203 yX8_isZoom wsX8_isZoom) := goodIn_app (goodIn_of _ (by decide +kernel)) ggX8_filled_X8_isZoom
set_option maxRecDepth 20000 in
theorem ggX8_filled_X8_nextInRow : GoodIn wsX8_filled wsX8_nextInRow := goodIn_r _ [14, 4, 15, 16, 17, 18, 19, 20, 21, 22, 23, 24, 25, 26] (by decide +kernel) (by decide +kernel)
set_option maxRecDepth 20000 in
theorem gX8_filled_X8_nextInRow : GoodIn wsX8_filled (wsV RX8 265 RX8 yX8_nextInRow wsX8_nextInRow) := goodIn_app (goodIn_of _ (by decide +kernel)) ggX8_filled_X8_nextInRow
set_option maxRecDepth 20000 in
theorem ggX8_densest_X8_isZoom : GoodIn wsX8_densest wsX8_isZoom := goodIn_r _ [9] (by decide +kernel) (by decide +kernel)
set_option maxRecDepth 20000 in
theorem gX8_densest_X8_isZoom : GoodIn wsX8_densest (va_wsS RX8 203 yX8_isZoom wsX8_isZoom) := goodIn_app (goodIn_of _ (by decide +kernel)) ggX8_densest_X8_isZoom
set_option maxRecDepth 20000 in
theorem ggX8_densest_X4_within : GoodIn wsX8_densest wsX4_within := goodIn_r _ [14, 15, 16, 17, 61, 62, 63, 64] (by decide +kernel) (by decide +kernel)
set_option maxRecDepth 20000 in
theorem gX8_densest_X4_within : GoodIn wsX8_densest (wsV RX8 258 RX4 yX4_within wsX4_within) := goodIn_app (goodIn_of _ (by decide +kernel)) ggX8_densest_X4_within
set_option maxRecDepth 20000 in
theorem ggX8_densest_X4_weightOf : GoodIn wsX8_densest wsX4_weightOf := goodIn_r _ [21, 15, 22, 23, 24, 25, 26, 61, 62, 63, 64] (by decide +kernel) (by decide +kernel)
set_option maxRecDepth 20000 in
theorem gX8_densest_X4_weightOf : GoodIn wsX8_densest (wsV RX8 163 RX4 yX4_weightOf wsX4_weightOf) := goodIn_app (goodIn_of _ (by decide +kernel)) ggX8_densest_X4_weightOf
set_option maxRecDepth 20000 in
theorem ggX8_densest_J6_bitCount_0f7a4 : GoodIn wsX8_densest wsJ6_bitCount_0f7a4 := goodIn_r _ [30, 31, 32, 33] (by decide +kernel) (by decide +kernel)
set_option maxRecDepth 20000 in
theorem gX8_densest_J6_bitCount_0f7a4 : GoodIn wsX8_densest (va_wsS RX8 158 yJ6_bitCount_0f7a4 wsJ6_bitCount_0f7a4) := goodIn_app (goodIn_of _ (by decide +kernel)) ggX8_densest_J6_bitCount_0f7a4
set_option maxRecDepth 20000 in
theorem ggX8_cover_X8_cutsGroup : GoodIn wsX8_cover wsX8_cutsGroup := goodIn_r _ [10, 1, 3, 11, 12, 13, 9, 14, 15, 16, 17, 18, 19, 20, 21, 22, 23, 24, 25, 26, 27, 28, 29, 30, 31, 32, 33, 34, 35, 36, 37, 38, 39, 40, 41, 42, 43, 44, 45, 46, 47, 48, 49, 50, 51, 52, 53, 54, 55, 82, 83, 84, 85, 86, 87, 88, 89, 90, 91, 92, 93, 94, 95, 96, 97, 98, 99, 100, 101, 102, 103, 104, 105, 106, 107, 108, 109, 110, 111, 112, 113, 114, 115, 116, 117, 118] (by decide +kernel) (by decide +kernel)
set_option maxRecDepth 20000 in
theorem gX8_cover_X8_cutsGroup : GoodIn wsX8_cover (wsV RX8 213 RX8 yX8_cutsGroup wsX8_cutsGroup) := goodIn_app (goodIn_of _ (by decide +kernel)) ggX8_cover_X8_cutsGroup
set_option maxRecDepth 20000 in
theorem ggX8_cover_X6_has : GoodIn wsX8_cover wsX6_has := goodIn_r _ [34] (by decide +kernel) (by decide +kernel)
set_option maxRecDepth 20000 in
theorem gX8_cover_X6_has : GoodIn wsX8_cover (va_wsS RX8 268 yX6_has wsX6_has) := goodIn_app (goodIn_of _ (by decide +kernel)) ggX8_cover_X6_has
set_option maxRecDepth 20000 in
theorem ggX8_cover_X8_widestTile : GoodIn wsX8_cover wsX8_widestTile := goodIn_r _ [60, 3, 4, 61, 62, 63, 64, 65, 9, 66, 67, 68, 69, 70, 71, 72, 73, 74, 82, 83, 84, 85, 86, 87, 88, 89, 90, 91, 92, 93, 100, 101, 102, 103, 104, 105, 106, 107, 108, 109, 110, 111, 112, 113, 114, 115, 116, 117, 118] (by decide +kernel) (by decide +kernel)
set_option maxRecDepth 20000 in
theorem gX8_cover_X8_widestTile : GoodIn wsX8_cover (wsV RX8 271 RX8 yX8_widestTile wsX8_widestTile) := goodIn_app (goodIn_of _ (by decide +kernel)) ggX8_cover_X8_widestTile
set_option maxRecDepth 20000 in
theorem ggX8_cover_X6_least : GoodIn wsX8_cover wsX6_least := goodIn_r _ [77, 78, 79, 33, 80, 81, 32, 34] (by decide +kernel) (by decide +kernel)
set_option maxRecDepth 20000 in
theorem gX8_cover_X6_least : GoodIn wsX8_cover (va_wsS RX8 219 yX6_least wsX6_least) := goodIn_app (goodIn_of _ (by decide +kernel)) ggX8_cover_X6_least
set_option maxRecDepth 20000 in
theorem ggX8_outline_X8_cutsGroup : GoodIn wsX8_outline wsX8_cutsGroup := goodIn_r _ [12, 4, 2, 13, 14, 15, 11, 16, 17, 18, 19, 20, 21, 22, 23, 24, 25, 26, 27, 28, 29, 30, 31, 32, 33, 34, 35, 36, 37, 38, 39, 40, 41, 42, 43, 44, 45, 46, 47, 48, 49, 50, 51, 52, 53, 54, 55, 56, 57, 76, 77, 78, 79, 80, 81, 82, 83, 84, 85, 86, 87, 103, 104, 105, 106, 107, 108, 88, 89, 90, 91, 92, 93, 94, 95, 96, 97, 98, 99, 100, 101, 102, 111, 112, 113, 114] (by decide +kernel) (by decide +kernel)
set_option maxRecDepth 20000 in
theorem gX8_outline_X8_cutsGroup : GoodIn wsX8_outline (wsV RX8 213 RX8 yX8_cutsGroup wsX8_cutsGroup) := goodIn_app (goodIn_of _ (by decide +kernel)) ggX8_outline_X8_cutsGroup
set_option maxRecDepth 20000 in
theorem ggX8_outline_X3_draw : GoodIn wsX8_outline wsX3_draw := goodIn_r _ [62, 63, 64, 65, 66, 34, 35, 36, 67, 68, 69, 61, 70, 71, 72, 73, 74, 75, 109, 110, 111, 112, 113, 114] (by decide +kernel) (by decide +kernel)
set_option maxRecDepth 20000 in
theorem gX8_outline_X3_draw : GoodIn wsX8_outline (wsV RX8 274 RX3 yX3_draw wsX3_draw) := goodIn_app (goodIn_of _ (by decide +kernel)) ggX8_outline_X3_draw
set_option maxRecDepth 20000 in
theorem ggX8_area_X8_cutsGroup : GoodIn wsX8_area wsX8_cutsGroup := goodIn_r _ [10, 4, 2, 11, 12, 13, 9, 14, 15, 16, 17, 18, 19, 20, 21, 22, 23, 24, 25, 26, 27, 28, 29, 30, 31, 32, 33, 34, 35, 36, 37, 38, 39, 40, 41, 42, 43, 44, 45, 46, 47, 48, 49, 50, 51, 52, 53, 54, 55, 78, 79, 80, 81, 82, 83, 84, 85, 86, 87, 88, 89, 105, 106, 107, 108, 109, 110, 90, 91, 92, 93, 94, 95, 96, 97, 98, 99, 100, 101, 102, 103, 104, 111, 112, 113, 114] (by decide +kernel) (by decide +kernel)
set_option maxRecDepth 20000 in
theorem gX8_area_X8_cutsGroup : GoodIn wsX8_area (wsV RX8 213 RX8 yX8_cutsGroup wsX8_cutsGroup) := goodIn_app (goodIn_of _ (by decide +kernel)) ggX8_area_X8_cutsGroup
set_option maxRecDepth 20000 in
theorem ggX8_area_X3_draw : GoodIn wsX8_area wsX3_draw := goodIn_r _ [60, 61, 62, 63, 64, 32, 33, 34, 65, 66, 67, 59, 68, 69, 70, 71, 72, 73, 115, 116, 111, 112, 113, 114] (by decide +kernel) (by decide +kernel)
set_option maxRecDepth 20000 in
theorem gX8_area_X3_draw : GoodIn wsX8_area (wsV RX8 274 RX3 yX3_draw wsX3_draw) := goodIn_app (goodIn_of _ (by decide +kernel)) ggX8_area_X3_draw
set_option maxRecDepth 20000 in
theorem ggX8_area_X3_twiceArea : GoodIn wsX8_area wsX3_twiceArea := goodIn_r _ [77, 61, 63, 72, 73, 115, 116, 111, 112, 113, 114] (by decide +kernel) (by decide +kernel)
set_option maxRecDepth 20000 in
theorem gX8_area_X3_twiceArea : GoodIn wsX8_area (wsV RX8 279 RX3 yX3_twiceArea wsX3_twiceArea) := goodIn_app (goodIn_of _ (by decide +kernel)) ggX8_area_X3_twiceArea
set_option maxRecDepth 20000 in
theorem ggX8_drift_X5_cut : GoodIn wsX8_drift wsX5_cut := goodIn_r _ [12, 13, 14, 15, 16, 17, 18, 19, 20, 21, 22, 23, 24, 25, 26, 27, 28, 29, 30, 31, 32, 33, 34, 35, 36, 37, 38, 39, 40, 11, 41, 42, 43, 44, 45, 46, 47, 48, 74, 75, 76, 77, 78, 79, 80, 81, 82, 83, 84, 85, 86, 87, 88, 89, 90, 91, 92, 93, 94, 95, 96, 97, 98] (by decide +kernel) (by decide +kernel)
set_option maxRecDepth 20000 in
theorem gX8_drift_X5_cut : GoodIn wsX8_drift (wsV RX8 206 RX5 yX5_cut wsX5_cut) := goodIn_app (goodIn_of _ (by decide +kernel)) ggX8_drift_X5_cut
set_option maxRecDepth 20000 in
theorem ggX8_drift_X5_groupOfPart : GoodIn wsX8_drift wsX5_groupOfPart := goodIn_r _ [52, 13, 16, 74, 75, 76, 77, 78, 79] (by decide +kernel) (by decide +kernel)
set_option maxRecDepth 20000 in
theorem gX8_drift_X5_groupOfPart : GoodIn wsX8_drift (wsV RX8 284 RX5 yX5_groupOfPart wsX5_groupOfPart) := goodIn_app (goodIn_of _ (by decide +kernel)) ggX8_drift_X5_groupOfPart
set_option maxRecDepth 20000 in
theorem ggX8_drift_X6_farther : GoodIn wsX8_drift wsX6_farther := goodIn_r _ [55, 56, 57, 34, 58, 59, 60, 61] (by decide +kernel) (by decide +kernel)
set_option maxRecDepth 20000 in
theorem gX8_drift_X6_farther : GoodIn wsX8_drift (va_wsS RX8 287 yX6_farther wsX6_farther) := goodIn_app (goodIn_of _ (by decide +kernel)) ggX8_drift_X6_farther
set_option maxRecDepth 20000 in
theorem ggX8_tile_X8_isTile : GoodIn wsX8_tile wsX8_isTile := goodIn_r _ [7, 8, 9, 6, 10] (by decide +kernel) (by decide +kernel)
set_option maxRecDepth 20000 in
theorem gX8_tile_X8_isTile : GoodIn wsX8_tile (va_wsS RX8 290 yX8_isTile wsX8_isTile) := goodIn_app (goodIn_of _ (by decide +kernel)) ggX8_tile_X8_isTile
set_option maxRecDepth 20000 in
theorem ggX8_tile_X8_pointsInTile : GoodIn wsX8_tile wsX8_pointsInTile := goodIn_r _ [14, 1, 2, 15, 16, 17, 18, 19, 20, 21, 22, 85, 86, 87, 88, 89, 90, 91, 92, 93, 94, 95, 96, 97, 98, 99, 100, 101, 102, 103, 104, 105, 106, 107, 108, 109, 110, 111, 112, 113, 114, 115] (by decide +kernel) (by decide +kernel)
set_option maxRecDepth 20000 in
theorem gX8_tile_X8_pointsInTile : GoodIn wsX8_tile (wsV RX8 293 RX8 yX8_pointsInTile wsX8_pointsInTile) := goodIn_app (goodIn_of _ (by decide +kernel)) ggX8_tile_X8_pointsInTile
set_option maxRecDepth 20000 in
theorem ggX8_tile_J6_bitCount_0f7a4 : GoodIn wsX8_tile wsJ6_bitCount_0f7a4 := goodIn_r _ [26, 27, 28, 29] (by decide +kernel) (by decide +kernel)
set_option maxRecDepth 20000 in
theorem gX8_tile_J6_bitCount_0f7a4 : GoodIn wsX8_tile (va_wsS RX8 158 yJ6_bitCount_0f7a4 wsJ6_bitCount_0f7a4) := goodIn_app (goodIn_of _ (by decide +kernel)) ggX8_tile_J6_bitCount_0f7a4
set_option maxRecDepth 20000 in
theorem ggX8_tile_X4_weightOf : GoodIn wsX8_tile wsX4_weightOf := goodIn_r _ [33, 20, 34, 35, 36, 37, 38, 112, 113, 114, 115] (by decide +kernel) (by decide +kernel)
set_option maxRecDepth 20000 in
theorem gX8_tile_X4_weightOf : GoodIn wsX8_tile (wsV RX8 163 RX4 yX4_weightOf wsX4_weightOf) := goodIn_app (goodIn_of _ (by decide +kernel)) ggX8_tile_X4_weightOf
set_option maxRecDepth 20000 in
theorem ggX8_tile_X5_cut : GoodIn wsX8_tile wsX5_cut := goodIn_r _ [43, 44, 45, 46, 47, 48, 49, 50, 51, 52, 53, 54, 55, 36, 37, 38, 56, 57, 58, 59, 60, 61, 62, 63, 64, 65, 66, 67, 68, 42, 69, 70, 71, 72, 73, 74, 75, 76, 116, 117, 118, 119, 120, 121, 97, 98, 99, 100, 101, 102, 103, 104, 105, 106, 107, 108, 109, 110, 111, 112, 113, 114, 115] (by decide +kernel) (by decide +kernel)
set_option maxRecDepth 20000 in
theorem gX8_tile_X5_cut : GoodIn wsX8_tile (wsV RX8 206 RX5 yX5_cut wsX5_cut) := goodIn_app (goodIn_of _ (by decide +kernel)) ggX8_tile_X5_cut
set_option maxRecDepth 20000 in
theorem ggX8_tile_X5_centresIn : GoodIn wsX8_tile wsX5_centresIn := goodIn_r _ [80, 44, 75, 76, 116, 117, 118, 119, 120, 121] (by decide +kernel) (by decide +kernel)
set_option maxRecDepth 20000 in
theorem gX8_tile_X5_centresIn : GoodIn wsX8_tile (wsV RX8 254 RX5 yX5_centresIn wsX5_centresIn) := goodIn_app (goodIn_of _ (by decide +kernel)) ggX8_tile_X5_centresIn
set_option maxRecDepth 20000 in
theorem ggX8_tile_X8_filledQuarters : GoodIn wsX8_tile wsX8_filledQuarters := goodIn_r _ [84, 11, 12, 13, 6, 14, 1, 2, 15, 16, 17, 18, 19, 20, 21, 22, 85, 86, 87, 88, 89, 90, 91, 92, 93, 94, 95, 96, 97, 98, 99, 100, 101, 102, 103, 104, 105, 106, 107, 108, 109, 110, 111, 112, 113, 114, 115] (by decide +kernel) (by decide +kernel)
set_option maxRecDepth 20000 in
theorem gX8_tile_X8_filledQuarters : GoodIn wsX8_tile (wsV RX8 296 RX8 yX8_filledQuarters wsX8_filledQuarters) := goodIn_app (goodIn_of _ (by decide +kernel)) ggX8_tile_X8_filledQuarters
set_option maxRecDepth 20000 in
theorem ggX8_part_X8_isPoint : GoodIn wsX8_part wsX8_isPoint := goodIn_r _ [8, 1, 2, 3, 31, 32, 33, 34, 35, 36, 37, 38, 39, 40, 41, 42, 43, 44, 45, 46, 47, 48, 49, 50, 51, 52, 53, 54, 55, 56, 57, 58, 59, 60, 61] (by decide +kernel) (by decide +kernel)
set_option maxRecDepth 20000 in
theorem gX8_part_X8_isPoint : GoodIn wsX8_part (wsV RX8 99 RX8 yX8_isPoint wsX8_isPoint) := goodIn_app (goodIn_of _ (by decide +kernel)) ggX8_part_X8_isPoint
set_option maxRecDepth 20000 in
theorem ggX8_part_X2_partOf : GoodIn wsX8_part wsX2_partOf := goodIn_r _ [13, 14, 15, 16, 17, 18, 19, 20, 21, 22, 23, 43, 44, 45, 46, 47, 48, 49, 50, 51, 52, 53, 54, 55, 56, 57] (by decide +kernel) (by decide +kernel)
set_option maxRecDepth 20000 in
theorem gX8_part_X2_partOf : GoodIn wsX8_part (wsV RX8 299 RX2 yX2_partOf wsX2_partOf) := goodIn_app (goodIn_of _ (by decide +kernel)) ggX8_part_X2_partOf
set_option maxRecDepth 20000 in
theorem ggX8_part_X6_least : GoodIn wsX8_part wsX6_least := goodIn_r _ [26, 27, 28, 22, 29, 30, 21, 23] (by decide +kernel) (by decide +kernel)
set_option maxRecDepth 20000 in
theorem gX8_part_X6_least : GoodIn wsX8_part (va_wsS RX8 219 yX6_least wsX6_least) := goodIn_app (goodIn_of _ (by decide +kernel)) ggX8_part_X6_least
set_option maxRecDepth 20000 in
theorem ggX8_best_X1_choose : GoodIn wsX8_best wsX1_choose := goodIn_r _ [11, 12, 13, 14, 15, 16, 17, 18, 19, 20, 21, 22, 23, 24, 25, 26, 27, 28, 29, 30, 31, 32, 33, 34, 35, 36, 37, 38, 39, 40, 41, 42, 43, 44, 45, 46, 47, 48, 49, 50, 51, 52, 53, 54, 55, 10, 56, 57, 58, 59, 60, 61, 62, 63, 64, 65, 66, 67, 68, 69, 70, 71, 72, 73, 74, 75, 76, 77, 78, 79, 80, 81, 82, 83, 84, 85, 86, 103, 104, 105, 106, 107, 108, 109, 110, 111, 112, 113, 114, 115, 116, 117, 118, 119, 120, 121, 122, 123, 124, 125, 126] (by decide +kernel) (by decide +kernel)
set_option maxRecDepth 20000 in
theorem gX8_best_X1_choose : GoodIn wsX8_best (wsV RX8 305 RX1 yX1_choose wsX1_choose) := goodIn_app (goodIn_of _ (by decide +kernel)) ggX8_best_X1_choose
set_option maxRecDepth 20000 in
theorem ggX8_best_X1_nth : GoodIn wsX8_best wsX1_nth := goodIn_r _ [90, 16, 103, 104, 105, 106, 107] (by decide +kernel) (by decide +kernel)
set_option maxRecDepth 20000 in
theorem gX8_best_X1_nth : GoodIn wsX8_best (wsV RX8 313 RX1 yX1_nth wsX1_nth) := goodIn_app (goodIn_of _ (by decide +kernel)) ggX8_best_X1_nth
set_option maxRecDepth 20000 in
theorem ggX8_shown_X8_isZoom : GoodIn wsX8_shown wsX8_isZoom := goodIn_r _ [6] (by decide +kernel) (by decide +kernel)
set_option maxRecDepth 20000 in
theorem gX8_shown_X8_isZoom : GoodIn wsX8_shown (va_wsS RX8 203 yX8_isZoom wsX8_isZoom) := goodIn_app (goodIn_of _ (by decide +kernel)) ggX8_shown_X8_isZoom
set_option maxRecDepth 20000 in
theorem ggX8_shown_X8_layLabels : GoodIn wsX8_shown wsX8_layLabels := goodIn_r _ [10, 11, 12, 1, 13, 14, 15, 16, 17, 18, 19, 20, 21, 22, 23, 24, 25, 26, 27, 28, 29, 30, 31, 32, 33, 34, 35, 36, 37, 38, 39, 40, 41, 42, 43, 44, 45, 46, 47, 48, 49, 50, 51, 52, 53, 54, 55, 56, 57, 58, 59, 60, 61, 62, 63, 64, 65, 66, 67, 68, 69, 70, 71, 72, 73, 74, 75, 76, 77, 78, 79, 80, 81, 82, 83, 84, 85, 86, 87, 88, 89, 90, 91, 92, 93, 94, 95, 96, 97, 98, 99, 100, 101, 102, 103, 104, 105, 106, 107, 111, 112, 113, 114, 115, 116, 117, 118, 119, 120, 121, 122, 123, 124, 125, 126, 127, 128, 129, 130, 131, 132, 133, 134, 135, 108, 109, 110] (by decide +kernel) (by decide +kernel)
set_option maxRecDepth 20000 in
theorem gX8_shown_X8_layLabels : GoodIn wsX8_shown (wsV RX8 314 RX8 yX8_layLabels wsX8_layLabels) := goodIn_app (goodIn_of _ (by decide +kernel)) ggX8_shown_X8_layLabels
set_option maxRecDepth 20000 in
theorem ggX8_label_X8_isZoom : GoodIn wsX8_label wsX8_isZoom := goodIn_r _ [9] (by decide +kernel) (by decide +kernel)
set_option maxRecDepth 20000 in
theorem gX8_label_X8_isZoom : GoodIn wsX8_label (va_wsS RX8 203 yX8_isZoom wsX8_isZoom) := goodIn_app (goodIn_of _ (by decide +kernel)) ggX8_label_X8_isZoom
set_option maxRecDepth 20000 in
theorem ggX8_label_X8_layLabels : GoodIn wsX8_label wsX8_layLabels := goodIn_r _ [13, 3, 14, 1, 15, 16, 17, 18, 19, 20, 21, 22, 23, 24, 25, 26, 27, 28, 29, 30, 31, 32, 33, 34, 35, 36, 37, 38, 39, 40, 41, 42, 43, 44, 45, 46, 47, 48, 49, 50, 51, 52, 53, 54, 55, 56, 57, 58, 59, 60, 61, 62, 63, 64, 65, 66, 67, 68, 69, 70, 71, 72, 73, 74, 75, 76, 77, 78, 79, 80, 81, 82, 83, 84, 85, 86, 87, 88, 89, 90, 91, 92, 93, 94, 95, 96, 97, 113, 114, 115, 116, 117, 118, 119, 120, 121, 122, 123, 124, 128, 129, 130, 131, 132, 133, 134, 135, 136, 137, 138, 139, 140, 141, 142, 143, 144, 145, 146, 147, 148, 149, 150, 151, 152, 125, 126, 127] (by decide +kernel) (by decide +kernel)
set_option maxRecDepth 20000 in
theorem gX8_label_X8_layLabels : GoodIn wsX8_label (wsV RX8 314 RX8 yX8_layLabels wsX8_layLabels) := goodIn_app (goodIn_of _ (by decide +kernel)) ggX8_label_X8_layLabels
set_option maxRecDepth 20000 in
theorem ggX8_label_X0_countedWith : GoodIn wsX8_label wsX0_countedWith := goodIn_r _ [101, 65, 125, 126, 127] (by decide +kernel) (by decide +kernel)
set_option maxRecDepth 20000 in
theorem gX8_label_X0_countedWith : GoodIn wsX8_label (wsV RX8 318 RX0 yX0_countedWith wsX0_countedWith) := goodIn_app (goodIn_of _ (by decide +kernel)) ggX8_label_X0_countedWith
set_option maxRecDepth 20000 in
theorem ggX8_label_X5_weightOf : GoodIn wsX8_label wsX5_weightOf := goodIn_r _ [105, 21, 54, 32, 33, 34, 35, 128, 129, 130, 131, 132, 133] (by decide +kernel) (by decide +kernel)
set_option maxRecDepth 20000 in
theorem gX8_label_X5_weightOf : GoodIn wsX8_label (wsV RX8 261 RX5 yX5_weightOf wsX5_weightOf) := goodIn_app (goodIn_of _ (by decide +kernel)) ggX8_label_X5_weightOf
set_option maxRecDepth 20000 in
theorem ggX8_label_J6_bitCount_0f7a4 : GoodIn wsX8_label wsJ6_bitCount_0f7a4 := goodIn_r _ [109, 110, 111, 112] (by decide +kernel) (by decide +kernel)
set_option maxRecDepth 20000 in
theorem gX8_label_J6_bitCount_0f7a4 : GoodIn wsX8_label (va_wsS RX8 158 yJ6_bitCount_0f7a4 wsJ6_bitCount_0f7a4) := goodIn_app (goodIn_of _ (by decide +kernel)) ggX8_label_J6_bitCount_0f7a4
set_option maxRecDepth 20000 in
theorem ggX8_counted_X8_isZoom : GoodIn wsX8_counted wsX8_isZoom := goodIn_r _ [10] (by decide +kernel) (by decide +kernel)
set_option maxRecDepth 20000 in
theorem gX8_counted_X8_isZoom : GoodIn wsX8_counted (va_wsS RX8 203 yX8_isZoom wsX8_isZoom) := goodIn_app (goodIn_of _ (by decide +kernel)) ggX8_counted_X8_isZoom
set_option maxRecDepth 20000 in
theorem ggX8_counted_X8_layLabels : GoodIn wsX8_counted wsX8_layLabels := goodIn_r _ [14, 1, 15, 3, 16, 17, 18, 19, 20, 21, 22, 23, 24, 25, 26, 27, 28, 29, 30, 31, 32, 33, 34, 35, 36, 37, 38, 39, 40, 41, 42, 43, 44, 45, 46, 47, 48, 49, 50, 51, 52, 53, 54, 55, 56, 57, 58, 59, 60, 61, 62, 63, 64, 65, 66, 67, 68, 69, 70, 71, 72, 73, 74, 75, 76, 77, 78, 79, 80, 81, 82, 83, 84, 85, 86, 87, 88, 89, 90, 91, 92, 93, 94, 95, 96, 97, 98, 99, 100, 101, 102, 103, 104, 105, 106, 107, 108, 109, 110, 111, 112, 113, 114, 115, 116, 120, 121, 122, 123, 124, 125, 126, 127, 128, 129, 130, 131, 132, 133, 134, 135, 136, 137, 138, 117, 118, 119] (by decide +kernel) (by decide +kernel)
set_option maxRecDepth 20000 in
theorem gX8_counted_X8_layLabels : GoodIn wsX8_counted (wsV RX8 314 RX8 yX8_layLabels wsX8_layLabels) := goodIn_app (goodIn_of _ (by decide +kernel)) ggX8_counted_X8_layLabels
set_option maxRecDepth 20000 in
theorem ggX8_repaired_X2_countUnlike : GoodIn wsX8_repaired wsX2_countUnlike := goodIn_r _ [7, 8, 9, 10, 11, 12, 6, 13, 35, 36, 37, 38, 39, 40, 41, 42, 43, 44, 45, 46, 47, 48, 49] (by decide +kernel) (by decide +kernel)
set_option maxRecDepth 20000 in
theorem gX8_repaired_X2_countUnlike : GoodIn wsX8_repaired (wsV RX8 95 RX2 yX2_countUnlike wsX2_countUnlike) := goodIn_app (goodIn_of _ (by decide +kernel)) ggX8_repaired_X2_countUnlike
set_option maxRecDepth 20000 in
theorem ggX8_repaired_X2_sumAparts : GoodIn wsX8_repaired wsX2_sumAparts := goodIn_r _ [17, 8, 18, 35, 36, 37, 38, 39, 40, 41, 42, 43, 44, 45, 46, 47, 48, 49] (by decide +kernel) (by decide +kernel)
set_option maxRecDepth 20000 in
theorem gX8_repaired_X2_sumAparts : GoodIn wsX8_repaired (wsV RX8 327 RX2 yX2_sumAparts wsX2_sumAparts) := goodIn_app (goodIn_of _ (by decide +kernel)) ggX8_repaired_X2_sumAparts
set_option maxRecDepth 20000 in
theorem ggX8_repaired_X2_sameFromFirst : GoodIn wsX8_repaired wsX2_sameFromFirst := goodIn_r _ [22, 8, 9, 35, 36, 37, 38, 39, 40, 41, 42, 43, 44, 45, 46, 47, 48, 49] (by decide +kernel) (by decide +kernel)
set_option maxRecDepth 20000 in
theorem gX8_repaired_X2_sameFromFirst : GoodIn wsX8_repaired (wsV RX8 331 RX2 yX2_sameFromFirst wsX2_sameFromFirst) := goodIn_app (goodIn_of _ (by decide +kernel)) ggX8_repaired_X2_sameFromFirst
set_option maxRecDepth 20000 in
theorem ggX8_would_X4_canCome : GoodIn wsX8_would wsX4_canCome := goodIn_r _ [9, 10, 11, 12, 13, 8, 14, 15, 16, 153, 154, 155, 156] (by decide +kernel) (by decide +kernel)
set_option maxRecDepth 20000 in
theorem gX8_would_X4_canCome : GoodIn wsX8_would (wsV RX8 79 RX4 yX4_canCome wsX4_canCome) := goodIn_app (goodIn_of _ (by decide +kernel)) ggX8_would_X4_canCome
set_option maxRecDepth 20000 in
theorem ggX8_would_X4_copy : GoodIn wsX8_would wsX4_copy := goodIn_r _ [20, 10, 15, 16, 21, 153, 154, 155, 156] (by decide +kernel) (by decide +kernel)
set_option maxRecDepth 20000 in
theorem gX8_would_X4_copy : GoodIn wsX8_would (wsV RX8 335 RX4 yX4_copy wsX4_copy) := goodIn_app (goodIn_of _ (by decide +kernel)) ggX8_would_X4_copy
set_option maxRecDepth 20000 in
theorem ggX8_would_X4_put : GoodIn wsX8_would wsX4_put := goodIn_r _ [25, 10, 15, 16, 21, 26, 27, 28, 8, 29, 153, 154, 155, 156] (by decide +kernel) (by decide +kernel)
set_option maxRecDepth 20000 in
theorem gX8_would_X4_put : GoodIn wsX8_would (wsV RX8 88 RX4 yX4_put wsX4_put) := goodIn_app (goodIn_of _ (by decide +kernel)) ggX8_would_X4_put
set_option maxRecDepth 20000 in
theorem ggX8_would_X2_rebuild : GoodIn wsX8_would wsX2_rebuild := goodIn_r _ [34, 35, 36, 37, 38, 39, 40, 41, 42, 33, 43, 44, 45, 46, 47, 48, 49, 50, 51, 52, 53, 54, 55, 56, 57, 58, 59, 60, 61, 8, 62, 15, 16, 63, 64, 65, 66, 67, 68, 69, 70, 71, 72, 73, 74, 75, 76, 77, 78, 79, 80, 81, 82, 83, 84, 85, 86, 87, 88, 89, 90, 91, 92, 93, 94, 95, 96, 97, 98, 99, 100, 101, 102, 103, 104, 105, 106, 107, 108, 109, 110, 111, 112, 113, 138, 139, 140, 141, 142, 143, 144, 145, 146, 147, 148, 149, 150, 151, 152, 153, 154, 155, 156] (by decide +kernel) (by decide +kernel)
set_option maxRecDepth 20000 in
theorem gX8_would_X2_rebuild : GoodIn wsX8_would (wsV RX8 92 RX2 yX2_rebuild wsX2_rebuild) := goodIn_app (goodIn_of _ (by decide +kernel)) ggX8_would_X2_rebuild
set_option maxRecDepth 20000 in
theorem ggX8_would_X2_countUnlike : GoodIn wsX8_would wsX2_countUnlike := goodIn_r _ [117, 39, 89, 118, 119, 120, 33, 121, 138, 139, 140, 141, 142, 143, 144, 145, 146, 147, 148, 149, 150, 151, 152] (by decide +kernel) (by decide +kernel)
set_option maxRecDepth 20000 in
theorem gX8_would_X2_countUnlike : GoodIn wsX8_would (wsV RX8 95 RX2 yX2_countUnlike wsX2_countUnlike) := goodIn_app (goodIn_of _ (by decide +kernel)) ggX8_would_X2_countUnlike
set_option maxRecDepth 20000 in
theorem ggX8_would_X2_sumAparts : GoodIn wsX8_would wsX2_sumAparts := goodIn_r _ [125, 39, 85, 138, 139, 140, 141, 142, 143, 144, 145, 146, 147, 148, 149, 150, 151, 152] (by decide +kernel) (by decide +kernel)
set_option maxRecDepth 20000 in
theorem gX8_would_X2_sumAparts : GoodIn wsX8_would (wsV RX8 327 RX2 yX2_sumAparts wsX2_sumAparts) := goodIn_app (goodIn_of _ (by decide +kernel)) ggX8_would_X2_sumAparts
set_option maxRecDepth 20000 in
theorem ggX8_stirred_X8_isZoom : GoodIn wsX8_stirred wsX8_isZoom := goodIn_r _ [14] (by decide +kernel) (by decide +kernel)
set_option maxRecDepth 20000 in
theorem gX8_stirred_X8_isZoom : GoodIn wsX8_stirred (va_wsS RX8 203 yX8_isZoom wsX8_isZoom) := goodIn_app (goodIn_of _ (by decide +kernel)) ggX8_stirred_X8_isZoom
set_option maxRecDepth 20000 in
theorem ggX8_stirred_X5_cut : GoodIn wsX8_stirred wsX5_cut := goodIn_r _ [19, 20, 21, 22, 23, 24, 25, 26, 27, 28, 29, 30, 31, 32, 33, 34, 35, 36, 37, 38, 39, 40, 41, 42, 43, 44, 45, 46, 47, 18, 48, 49, 50, 51, 52, 53, 54, 55, 95, 96, 97, 98, 99, 100, 76, 77, 78, 79, 80, 81, 82, 83, 84, 85, 86, 87, 88, 89, 90, 91, 92, 93, 94] (by decide +kernel) (by decide +kernel)
set_option maxRecDepth 20000 in
theorem gX8_stirred_X5_cut : GoodIn wsX8_stirred (wsV RX8 206 RX5 yX5_cut wsX5_cut) := goodIn_app (goodIn_of _ (by decide +kernel)) ggX8_stirred_X5_cut
set_option maxRecDepth 20000 in
theorem ggX8_stirred_X4_find : GoodIn wsX8_stirred wsX4_find := goodIn_r _ [60, 61, 62, 63, 91, 92, 93, 94] (by decide +kernel) (by decide +kernel)
set_option maxRecDepth 20000 in
theorem gX8_stirred_X4_find : GoodIn wsX8_stirred (wsV RX8 131 RX4 yX4_find wsX4_find) := goodIn_app (goodIn_of _ (by decide +kernel)) ggX8_stirred_X4_find
set_option maxRecDepth 20000 in
theorem ggX8_look_X6_first : GoodIn wsX8_look wsX6_first := goodIn_r _ [9] (by decide +kernel) (by decide +kernel)
set_option maxRecDepth 20000 in
theorem gX8_look_X6_first : GoodIn wsX8_look (va_wsS RX8 339 yX6_first wsX6_first) := goodIn_app (goodIn_of _ (by decide +kernel)) ggX8_look_X6_first
set_option maxRecDepth 20000 in
theorem ggX8_look_X4_weightOf : GoodIn wsX8_look wsX4_weightOf := goodIn_r _ [14, 15, 16, 17, 18, 8, 19, 106, 107, 108, 109] (by decide +kernel) (by decide +kernel)
set_option maxRecDepth 20000 in
theorem gX8_look_X4_weightOf : GoodIn wsX8_look (wsV RX8 163 RX4 yX4_weightOf wsX4_weightOf) := goodIn_app (goodIn_of _ (by decide +kernel)) ggX8_look_X4_weightOf
set_option maxRecDepth 20000 in
theorem ggX8_look_X2_sumAparts : GoodIn wsX8_look wsX2_sumAparts := goodIn_r _ [24, 25, 26, 91, 92, 93, 94, 95, 96, 97, 98, 99, 100, 101, 102, 103, 104, 105] (by decide +kernel) (by decide +kernel)
set_option maxRecDepth 20000 in
theorem gX8_look_X2_sumAparts : GoodIn wsX8_look (wsV RX8 327 RX2 yX2_sumAparts wsX2_sumAparts) := goodIn_app (goodIn_of _ (by decide +kernel)) ggX8_look_X2_sumAparts
set_option maxRecDepth 20000 in
theorem ggX8_look_X2_sumRoots : GoodIn wsX8_look wsX2_sumRoots := goodIn_r _ [30, 25, 31, 91, 92, 93, 94, 95, 96, 97, 98, 99, 100, 101, 102, 103, 104, 105] (by decide +kernel) (by decide +kernel)
set_option maxRecDepth 20000 in
theorem gX8_look_X2_sumRoots : GoodIn wsX8_look (wsV RX8 342 RX2 yX2_sumRoots wsX2_sumRoots) := goodIn_app (goodIn_of _ (by decide +kernel)) ggX8_look_X2_sumRoots
set_option maxRecDepth 20000 in
theorem ggX8_look_X4_wide : GoodIn wsX8_look wsX4_wide := goodIn_r _ [35, 15, 36, 37, 38, 39, 17, 18, 8, 19, 40, 41, 42, 13, 43, 44, 45, 46, 47, 48, 49, 106, 107, 108, 109] (by decide +kernel) (by decide +kernel)
set_option maxRecDepth 20000 in
theorem gX8_look_X4_wide : GoodIn wsX8_look (wsV RX8 245 RX4 yX4_wide wsX4_wide) := goodIn_app (goodIn_of _ (by decide +kernel)) ggX8_look_X4_wide
set_option maxRecDepth 20000 in
theorem ggX8_look_X2_mostLinks : GoodIn wsX8_look wsX2_mostLinks := goodIn_r _ [53, 54, 55, 56, 37, 38, 39, 57, 58, 59, 23, 60, 25, 61, 62, 91, 92, 93, 94, 95, 96, 97, 98, 99, 100, 101, 102, 103, 104, 105, 106, 107, 108, 109] (by decide +kernel) (by decide +kernel)
set_option maxRecDepth 20000 in
theorem gX8_look_X2_mostLinks : GoodIn wsX8_look (wsV RX8 345 RX2 yX2_mostLinks wsX2_mostLinks) := goodIn_app (goodIn_of _ (by decide +kernel)) ggX8_look_X2_mostLinks
set_option maxRecDepth 20000 in
theorem ggX8_look_X8_groupsOfAllZooms : GoodIn wsX8_look wsX8_groupsOfAllZooms := goodIn_r _ [67, 68, 69, 70, 66, 71, 1, 2, 3, 72, 73, 74, 75, 76, 77, 23, 78, 25, 26, 79, 80, 81, 82, 83, 84, 85, 86, 87, 88, 89, 90, 91, 92, 93, 94, 95, 96, 97, 98, 99, 100, 101, 102, 103, 104, 105, 106, 107, 108, 109] (by decide +kernel) (by decide +kernel)
set_option maxRecDepth 20000 in
theorem gX8_look_X8_groupsOfAllZooms : GoodIn wsX8_look (wsV RX8 348 RX8 yX8_groupsOfAllZooms wsX8_groupsOfAllZooms) := goodIn_app (goodIn_of _ (by decide +kernel)) ggX8_look_X8_groupsOfAllZooms
set_option maxRecDepth 20000 in
theorem ggX8_isTile_X8_isZoom : GoodIn wsX8_isTile wsX8_isZoom := goodIn_r _ [4] (by decide +kernel) (by decide +kernel)
set_option maxRecDepth 20000 in
theorem gX8_isTile_X8_isZoom : GoodIn wsX8_isTile (va_wsS RX8 203 yX8_isZoom wsX8_isZoom) := goodIn_app (goodIn_of _ (by decide +kernel)) ggX8_isTile_X8_isZoom
set_option maxRecDepth 20000 in
theorem ggX8_cutsGroup_X8_isZoom : GoodIn wsX8_cutsGroup wsX8_isZoom := goodIn_r _ [7] (by decide +kernel) (by decide +kernel)
set_option maxRecDepth 20000 in
theorem gX8_cutsGroup_X8_isZoom : GoodIn wsX8_cutsGroup (va_wsS RX8 203 yX8_isZoom wsX8_isZoom) := goodIn_app (goodIn_of _ (by decide +kernel)) ggX8_cutsGroup_X8_isZoom
set_option maxRecDepth 20000 in
theorem ggX8_cutsGroup_X5_cut : GoodIn wsX8_cutsGroup wsX5_cut := goodIn_r _ [12, 13, 14, 15, 16, 17, 18, 19, 20, 21, 22, 23, 24, 25, 26, 27, 28, 29, 30, 31, 32, 33, 34, 35, 36, 37, 38, 39, 40, 11, 41, 42, 43, 44, 45, 46, 47, 48, 61, 62, 63, 64, 65, 66, 67, 68, 69, 70, 71, 72, 73, 74, 75, 76, 77, 78, 79, 80, 81, 82, 83, 84, 85] (by decide +kernel) (by decide +kernel)
set_option maxRecDepth 20000 in
theorem gX8_cutsGroup_X5_cut : GoodIn wsX8_cutsGroup (wsV RX8 206 RX5 yX5_cut wsX5_cut) := goodIn_app (goodIn_of _ (by decide +kernel)) ggX8_cutsGroup_X5_cut
set_option maxRecDepth 20000 in
theorem ggX8_startRepair_X4_copy : GoodIn wsX8_startRepair wsX4_copy := goodIn_r _ [8, 9, 10, 11, 12, 40, 41, 42, 43] (by decide +kernel) (by decide +kernel)
set_option maxRecDepth 20000 in
theorem gX8_startRepair_X4_copy : GoodIn wsX8_startRepair (wsV RX8 335 RX4 yX4_copy wsX4_copy) := goodIn_app (goodIn_of _ (by decide +kernel)) ggX8_startRepair_X4_copy
set_option maxRecDepth 20000 in
theorem ggX8_layLabels_X5_cut : GoodIn wsX8_layLabels wsX5_cut := goodIn_r _ [9, 10, 11, 12, 13, 14, 15, 16, 17, 18, 19, 20, 21, 22, 23, 24, 25, 26, 27, 28, 29, 30, 31, 32, 33, 34, 35, 36, 37, 8, 38, 39, 40, 41, 42, 43, 44, 45, 99, 100, 101, 102, 103, 104, 105, 106, 107, 108, 109, 110, 111, 112, 113, 114, 115, 116, 117, 118, 119, 120, 121, 122, 123] (by decide +kernel) (by decide +kernel)
set_option maxRecDepth 20000 in
theorem gX8_layLabels_X5_cut : GoodIn wsX8_layLabels (wsV RX8 206 RX5 yX5_cut wsX5_cut) := goodIn_app (goodIn_of _ (by decide +kernel)) ggX8_layLabels_X5_cut
set_option maxRecDepth 20000 in
theorem ggX8_layLabels_X0_lay : GoodIn wsX8_layLabels wsX0_lay := goodIn_r _ [50, 51, 52, 53, 54, 55, 56, 23, 57, 58, 59, 60, 8, 61, 10, 21, 22, 24, 62, 63, 64, 65, 43, 66, 67, 68, 49, 69, 70, 71, 72, 73, 74, 75, 76, 77, 44, 45, 78, 79, 80, 81, 82, 31, 83, 84, 85, 86, 99, 100, 101, 102, 103, 104, 124, 125, 126] (by decide +kernel) (by decide +kernel)
set_option maxRecDepth 20000 in
theorem gX8_layLabels_X0_lay : GoodIn wsX8_layLabels (wsV RX8 353 RX0 yX0_lay wsX0_lay) := goodIn_app (goodIn_of _ (by decide +kernel)) ggX8_layLabels_X0_lay
set_option maxRecDepth 20000 in
theorem ggX8_countSplits_X5_cut : GoodIn wsX8_countSplits wsX5_cut := goodIn_r _ [7, 8, 9, 10, 11, 12, 13, 14, 15, 16, 17, 18, 19, 20, 21, 22, 23, 24, 25, 26, 27, 28, 29, 30, 31, 32, 33, 34, 35, 6, 36, 37, 38, 39, 40, 41, 42, 43, 67, 68, 69, 70, 71, 72, 73, 74, 75, 76, 77, 78, 79, 80, 81, 82, 83, 84, 85, 86, 87, 88, 89, 90, 91] (by decide +kernel) (by decide +kernel)
set_option maxRecDepth 20000 in
theorem gX8_countSplits_X5_cut : GoodIn wsX8_countSplits (wsV RX8 206 RX5 yX5_cut wsX5_cut) := goodIn_app (goodIn_of _ (by decide +kernel)) ggX8_countSplits_X5_cut
set_option maxRecDepth 20000 in
theorem ggX8_countSplits_X5_groupsWithin : GoodIn wsX8_countSplits wsX5_groupsWithin := goodIn_r _ [47, 8, 11, 67, 68, 69, 70, 71, 72] (by decide +kernel) (by decide +kernel)
set_option maxRecDepth 20000 in
theorem gX8_countSplits_X5_groupsWithin : GoodIn wsX8_countSplits (wsV RX8 251 RX5 yX5_groupsWithin wsX5_groupsWithin) := goodIn_app (goodIn_of _ (by decide +kernel)) ggX8_countSplits_X5_groupsWithin
set_option maxRecDepth 20000 in
theorem ggX8_countSplits_J6_bitCount_0f7a4 : GoodIn wsX8_countSplits wsJ6_bitCount_0f7a4 := goodIn_r _ [51, 52, 53, 54] (by decide +kernel) (by decide +kernel)
set_option maxRecDepth 20000 in
theorem gX8_countSplits_J6_bitCount_0f7a4 : GoodIn wsX8_countSplits (va_wsS RX8 158 yJ6_bitCount_0f7a4 wsJ6_bitCount_0f7a4) := goodIn_app (goodIn_of _ (by decide +kernel)) ggX8_countSplits_J6_bitCount_0f7a4
set_option maxRecDepth 20000 in
theorem ggX8_pointsInTile_X4_within : GoodIn wsX8_pointsInTile wsX4_within := goodIn_r _ [7, 8, 9, 10, 38, 39, 40, 41] (by decide +kernel) (by decide +kernel)
set_option maxRecDepth 20000 in
theorem gX8_pointsInTile_X4_within : GoodIn wsX8_pointsInTile (wsV RX8 258 RX4 yX4_within wsX4_within) := goodIn_app (goodIn_of _ (by decide +kernel)) ggX8_pointsInTile_X4_within
set_option maxRecDepth 20000 in
theorem ggX8_filledQuarters_X8_pointsInTile : GoodIn wsX8_filledQuarters wsX8_pointsInTile := goodIn_r _ [5, 6, 7, 8, 9, 10, 11, 12, 13, 14, 15, 16, 17, 18, 19, 20, 21, 22, 23, 24, 25, 26, 27, 28, 29, 30, 31, 32, 33, 34, 35, 36, 37, 38, 39, 40, 41, 42, 43, 44, 45, 46] (by decide +kernel) (by decide +kernel)
set_option maxRecDepth 20000 in
theorem gX8_filledQuarters_X8_pointsInTile : GoodIn wsX8_filledQuarters (wsV RX8 293 RX8 yX8_pointsInTile wsX8_pointsInTile) := goodIn_app (goodIn_of _ (by decide +kernel)) ggX8_filledQuarters_X8_pointsInTile
set_option maxRecDepth 20000 in
theorem ggX8_widestTile_X8_pointsInTile : GoodIn wsX8_widestTile wsX8_pointsInTile := goodIn_r _ [9, 1, 2, 10, 11, 12, 13, 14, 15, 16, 17, 18, 19, 20, 21, 22, 23, 24, 25, 26, 27, 28, 29, 30, 31, 32, 33, 34, 35, 36, 37, 38, 39, 40, 41, 42, 43, 44, 45, 46, 47, 48] (by decide +kernel) (by decide +kernel)
set_option maxRecDepth 20000 in
theorem gX8_widestTile_X8_pointsInTile : GoodIn wsX8_widestTile (wsV RX8 293 RX8 yX8_pointsInTile wsX8_pointsInTile) := goodIn_app (goodIn_of _ (by decide +kernel)) ggX8_widestTile_X8_pointsInTile
set_option maxRecDepth 20000 in
theorem ggX8_groupsOfAllZooms_X8_groups : GoodIn wsX8_groupsOfAllZooms wsX8_groups := goodIn_r _ [5, 6, 7, 8, 9, 10, 4, 11, 12, 13, 14, 15, 16, 17, 18, 19, 20, 21, 22, 23, 24, 25, 26, 27, 28, 29, 30, 31, 32, 33, 34, 35, 36, 37, 38, 39, 40, 41, 42, 43, 44, 45, 46, 47, 48, 49] (by decide +kernel) (by decide +kernel)
set_option maxRecDepth 20000 in
theorem gX8_groupsOfAllZooms_X8_groups : GoodIn wsX8_groupsOfAllZooms (wsV RX8 357 RX8 yX8_groups wsX8_groups) := goodIn_app (goodIn_of _ (by decide +kernel)) ggX8_groupsOfAllZooms_X8_groups
set_option maxRecDepth 20000 in
theorem ggX9_isPoint_X9_isIn : GoodIn wsX9_isPoint wsX9_isIn := goodIn_r _ [6] (by decide +kernel) (by decide +kernel)
set_option maxRecDepth 20000 in
theorem gX9_isPoint_X9_isIn : GoodIn wsX9_isPoint (wsV RX9 101 RX9 yX9_isIn wsX9_isIn) := goodIn_app (goodIn_of _ (by decide +kernel)) ggX9_isPoint_X9_isIn
set_option maxRecDepth 20000 in
theorem ggX9_isZoom_X9_isIn : GoodIn wsX9_isZoom wsX9_isIn := goodIn_r _ [6] (by decide +kernel) (by decide +kernel)
set_option maxRecDepth 20000 in
theorem gX9_isZoom_X9_isIn : GoodIn wsX9_isZoom (wsV RX9 101 RX9 yX9_isIn wsX9_isIn) := goodIn_app (goodIn_of _ (by decide +kernel)) ggX9_isZoom_X9_isIn
set_option maxRecDepth 20000 in
theorem ggX9_isSooner_X9_apart : GoodIn wsX9_isSooner wsX9_apart := goodIn_r _ [12, 13, 14, 15, 16, 17, 18, 19, 20, 21, 22, 23, 24, 25, 26, 27, 28, 29, 30, 31, 32, 33, 34, 35, 36, 37, 38, 39, 40, 41, 42, 43, 44, 45, 46, 47, 48, 49, 50, 51, 52] (by decide +kernel) (by decide +kernel)
set_option maxRecDepth 20000 in
theorem gX9_isSooner_X9_apart : GoodIn wsX9_isSooner (wsV RX9 107 RX9 yX9_apart wsX9_apart) := goodIn_app (goodIn_of _ (by decide +kernel)) ggX9_isSooner_X9_apart
set_option maxRecDepth 20000 in
theorem ggX9_laysTree_X9_joins : GoodIn wsX9_laysTree wsX9_joins := goodIn_r _ [16, 1, 46, 47, 48, 49, 50, 51, 52, 53, 54, 55, 56, 57, 58, 59, 60, 61, 62, 63, 64, 65, 66, 67, 68, 69, 70, 71, 72, 73, 74, 75, 76, 77, 78, 79, 80, 81, 82, 83] (by decide +kernel) (by decide +kernel)
set_option maxRecDepth 20000 in
theorem gX9_laysTree_X9_joins : GoodIn wsX9_laysTree (wsV RX9 119 RX9 yX9_joins wsX9_joins) := goodIn_app (goodIn_of _ (by decide +kernel)) ggX9_laysTree_X9_joins
set_option maxRecDepth 20000 in
theorem ggX9_laysTree_X9_has : GoodIn wsX9_laysTree wsX9_has := goodIn_r _ [20] (by decide +kernel) (by decide +kernel)
set_option maxRecDepth 20000 in
theorem gX9_laysTree_X9_has : GoodIn wsX9_laysTree (wsV RX9 123 RX9 yX9_has wsX9_has) := goodIn_app (goodIn_of _ (by decide +kernel)) ggX9_laysTree_X9_has
set_option maxRecDepth 20000 in
theorem ggX9_laysTree_X9_isSooner : GoodIn wsX9_laysTree wsX9_isSooner := goodIn_r _ [24, 4, 5, 6, 7, 8, 9, 10, 25, 26, 27, 15, 28, 29, 30, 46, 47, 48, 49, 50, 51, 52, 53, 54, 55, 56, 57, 58, 59, 60, 61, 62, 63, 64, 65, 66, 67, 68, 69, 70, 71, 72, 73, 74, 75, 76, 77, 78, 79, 80, 81, 82, 83] (by decide +kernel) (by decide +kernel)
set_option maxRecDepth 20000 in
theorem gX9_laysTree_X9_isSooner : GoodIn wsX9_laysTree (wsV RX9 127 RX9 yX9_isSooner wsX9_isSooner) := goodIn_app (goodIn_of _ (by decide +kernel)) ggX9_laysTree_X9_isSooner
set_option maxRecDepth 20000 in
theorem ggX9_laysTree_X9_apart : GoodIn wsX9_laysTree wsX9_apart := goodIn_r _ [28, 29, 30, 46, 47, 48, 49, 50, 51, 52, 53, 54, 55, 56, 57, 58, 59, 60, 61, 62, 63, 64, 65, 66, 67, 68, 69, 70, 71, 72, 73, 74, 75, 76, 77, 78, 79, 80, 81, 82, 83] (by decide +kernel) (by decide +kernel)
set_option maxRecDepth 20000 in
theorem gX9_laysTree_X9_apart : GoodIn wsX9_laysTree (wsV RX9 107 RX9 yX9_apart wsX9_apart) := goodIn_app (goodIn_of _ (by decide +kernel)) ggX9_laysTree_X9_apart
set_option maxRecDepth 20000 in
theorem ggX9_laysTree_X9_laysSides : GoodIn wsX9_laysTree wsX9_laysSides := goodIn_r _ [34, 1, 35, 36, 37, 38, 39, 2, 40, 3, 41, 12, 13, 14, 15, 16, 42, 43, 44, 45, 17, 18, 19, 20, 46, 47, 48, 49, 50, 51, 52, 53, 54, 55, 56, 57, 58, 59, 60, 61, 62, 63, 64, 65, 66, 67, 68, 69, 70, 71, 72, 73, 74, 75, 76, 77, 78, 79, 80, 81, 82, 83] (by decide +kernel) (by decide +kernel)
set_option maxRecDepth 20000 in
theorem gX9_laysTree_X9_laysSides : GoodIn wsX9_laysTree (wsV RX9 131 RX9 yX9_laysSides wsX9_laysSides) := goodIn_app (goodIn_of _ (by decide +kernel)) ggX9_laysTree_X9_laysSides
set_option maxRecDepth 20000 in
theorem ggX9_laysSides_X9_joins : GoodIn wsX9_laysSides wsX9_joins := goodIn_r _ [15, 1, 24, 25, 26, 27, 28, 29, 30, 31, 32, 33, 34, 35, 36, 37, 38, 39, 40, 41, 42, 43, 44, 45, 46, 47, 48, 49, 50, 51, 52, 53, 54, 55, 56, 57, 58, 59, 60, 61] (by decide +kernel) (by decide +kernel)
set_option maxRecDepth 20000 in
theorem gX9_laysSides_X9_joins : GoodIn wsX9_laysSides (wsV RX9 119 RX9 yX9_joins wsX9_joins) := goodIn_app (goodIn_of _ (by decide +kernel)) ggX9_laysSides_X9_joins
set_option maxRecDepth 20000 in
theorem ggX9_laysSides_X9_puts : GoodIn wsX9_laysSides wsX9_puts := goodIn_r _ [19, 4, 5, 24, 25, 26, 27, 28, 29, 30, 31, 32, 33, 34, 35, 36, 37, 38, 39, 40, 41, 42, 43, 44, 45, 46, 47, 48, 49, 50, 51, 52, 53, 54, 55, 56, 57, 58, 59, 60, 61] (by decide +kernel) (by decide +kernel)
set_option maxRecDepth 20000 in
theorem gX9_laysSides_X9_puts : GoodIn wsX9_laysSides (wsV RX9 134 RX9 yX9_puts wsX9_puts) := goodIn_app (goodIn_of _ (by decide +kernel)) ggX9_laysSides_X9_puts
set_option maxRecDepth 20000 in
theorem ggX9_laysSides_X9_has : GoodIn wsX9_laysSides wsX9_has := goodIn_r _ [23] (by decide +kernel) (by decide +kernel)
set_option maxRecDepth 20000 in
theorem gX9_laysSides_X9_has : GoodIn wsX9_laysSides (wsV RX9 123 RX9 yX9_has wsX9_has) := goodIn_app (goodIn_of _ (by decide +kernel)) ggX9_laysSides_X9_has
set_option maxRecDepth 20000 in
theorem ggX9_weightOf_X9_has : GoodIn wsX9_weightOf wsX9_has := goodIn_r _ [7] (by decide +kernel) (by decide +kernel)
set_option maxRecDepth 20000 in
theorem gX9_weightOf_X9_has : GoodIn wsX9_weightOf (wsV RX9 123 RX9 yX9_has wsX9_has) := goodIn_app (goodIn_of _ (by decide +kernel)) ggX9_weightOf_X9_has
set_option maxRecDepth 20000 in
theorem ggX9_bits_X9_has : GoodIn wsX9_bits wsX9_has := goodIn_r _ [5] (by decide +kernel) (by decide +kernel)
set_option maxRecDepth 20000 in
theorem gX9_bits_X9_has : GoodIn wsX9_bits (wsV RX9 123 RX9 yX9_has wsX9_has) := goodIn_app (goodIn_of _ (by decide +kernel)) ggX9_bits_X9_has
set_option maxRecDepth 20000 in
theorem ggX9_least_X9_has : GoodIn wsX9_least wsX9_has := goodIn_r _ [5] (by decide +kernel) (by decide +kernel)
set_option maxRecDepth 20000 in
theorem gX9_least_X9_has : GoodIn wsX9_least (wsV RX9 123 RX9 yX9_has wsX9_has) := goodIn_app (goodIn_of _ (by decide +kernel)) ggX9_least_X9_has
set_option maxRecDepth 20000 in
theorem ggX9_keeps_X9_placeOf : GoodIn wsX9_keeps wsX9_placeOf := goodIn_r _ [15, 16, 17, 22, 23, 24, 25, 26, 27, 28, 29, 30, 31, 32, 33, 34, 35, 36, 37, 38, 39, 40, 41, 42, 43, 44, 45, 46, 47, 48, 49, 50, 51, 52, 53, 54, 55, 56, 57, 58, 59] (by decide +kernel) (by decide +kernel)
set_option maxRecDepth 20000 in
theorem gX9_keeps_X9_placeOf : GoodIn wsX9_keeps (wsV RX9 141 RX9 yX9_placeOf wsX9_placeOf) := goodIn_app (goodIn_of _ (by decide +kernel)) ggX9_keeps_X9_placeOf
set_option maxRecDepth 20000 in
theorem ggX9_keeps_X9_joins : GoodIn wsX9_keeps wsX9_joins := goodIn_r _ [21, 1, 22, 23, 24, 25, 26, 27, 28, 29, 30, 31, 32, 33, 34, 35, 36, 37, 38, 39, 40, 41, 42, 43, 44, 45, 46, 47, 48, 49, 50, 51, 52, 53, 54, 55, 56, 57, 58, 59] (by decide +kernel) (by decide +kernel)
set_option maxRecDepth 20000 in
theorem gX9_keeps_X9_joins : GoodIn wsX9_keeps (wsV RX9 119 RX9 yX9_joins wsX9_joins) := goodIn_app (goodIn_of _ (by decide +kernel)) ggX9_keeps_X9_joins
set_option maxRecDepth 20000 in
theorem ggX9_areSame_X9_placeOf : GoodIn wsX9_areSame wsX9_placeOf := goodIn_r _ [9, 10, 11, 12, 13, 14, 15, 16, 17, 18, 19, 20, 21, 22, 23, 24, 25, 26, 27, 28, 29, 30, 31, 32, 33, 34, 35, 36, 37, 38, 39, 40, 41, 42, 43, 44, 45, 46, 47, 48, 49] (by decide +kernel) (by decide +kernel)
set_option maxRecDepth 20000 in
theorem gX9_areSame_X9_placeOf : GoodIn wsX9_areSame (wsV RX9 141 RX9 yX9_placeOf wsX9_placeOf) := goodIn_app (goodIn_of _ (by decide +kernel)) ggX9_areSame_X9_placeOf
set_option maxRecDepth 20000 in
theorem ggX9_isNew_X9_wasJoins : GoodIn wsX9_isNew wsX9_wasJoins := goodIn_r _ [6, 7, 22, 23, 24, 25, 26, 27, 28, 29, 30, 31, 32, 33, 34, 35, 36, 37, 38, 39, 40, 41, 42, 43, 44, 45, 46, 47, 48, 49, 50, 51, 52, 53, 54, 55, 56, 57, 58, 59] (by decide +kernel) (by decide +kernel)
set_option maxRecDepth 20000 in
theorem gX9_isNew_X9_wasJoins : GoodIn wsX9_isNew (wsV RX9 149 RX9 yX9_wasJoins wsX9_wasJoins) := goodIn_app (goodIn_of _ (by decide +kernel)) ggX9_isNew_X9_wasJoins
set_option maxRecDepth 20000 in
theorem ggX9_isNew_X9_areSame : GoodIn wsX9_isNew wsX9_areSame := goodIn_r _ [11, 12, 13, 14, 15, 16, 17, 18, 5, 19, 20, 21, 22, 23, 24, 25, 26, 27, 28, 29, 30, 31, 32, 33, 34, 35, 36, 37, 38, 39, 40, 41, 42, 43, 44, 45, 46, 47, 48, 49, 50, 51, 52, 53, 54, 55, 56, 57, 58, 59] (by decide +kernel) (by decide +kernel)
set_option maxRecDepth 20000 in
theorem gX9_isNew_X9_areSame : GoodIn wsX9_isNew (wsV RX9 152 RX9 yX9_areSame wsX9_areSame) := goodIn_app (goodIn_of _ (by decide +kernel)) ggX9_isNew_X9_areSame
set_option maxRecDepth 20000 in
theorem ggX9_isGone_X9_joins : GoodIn wsX9_isGone wsX9_joins := goodIn_r _ [5, 6, 21, 22, 23, 24, 25, 26, 27, 28, 29, 30, 31, 32, 33, 34, 35, 36, 37, 38, 39, 40, 41, 42, 43, 44, 45, 46, 47, 48, 49, 50, 51, 52, 53, 54, 55, 56, 57, 58] (by decide +kernel) (by decide +kernel)
set_option maxRecDepth 20000 in
theorem gX9_isGone_X9_joins : GoodIn wsX9_isGone (wsV RX9 119 RX9 yX9_joins wsX9_joins) := goodIn_app (goodIn_of _ (by decide +kernel)) ggX9_isGone_X9_joins
set_option maxRecDepth 20000 in
theorem ggX9_isGone_X9_areSame : GoodIn wsX9_isGone wsX9_areSame := goodIn_r _ [10, 11, 12, 13, 14, 15, 16, 17, 4, 18, 19, 20, 21, 22, 23, 24, 25, 26, 27, 28, 29, 30, 31, 32, 33, 34, 35, 36, 37, 38, 39, 40, 41, 42, 43, 44, 45, 46, 47, 48, 49, 50, 51, 52, 53, 54, 55, 56, 57, 58] (by decide +kernel) (by decide +kernel)
set_option maxRecDepth 20000 in
theorem gX9_isGone_X9_areSame : GoodIn wsX9_isGone (wsV RX9 152 RX9 yX9_areSame wsX9_areSame) := goodIn_app (goodIn_of _ (by decide +kernel)) ggX9_isGone_X9_areSame
set_option maxRecDepth 20000 in
theorem ggX9_newOnes_X9_joins : GoodIn wsX9_newOnes wsX9_joins := goodIn_r _ [5, 6, 31, 32, 33, 34, 35, 36, 37, 38, 39, 40, 41, 42, 43, 44, 45, 46, 47, 48, 49, 50, 51, 52, 53, 54, 55, 56, 57, 58, 59, 60, 61, 62, 63, 64, 65, 66, 67, 68] (by decide +kernel) (by decide +kernel)
set_option maxRecDepth 20000 in
theorem gX9_newOnes_X9_joins : GoodIn wsX9_newOnes (wsV RX9 119 RX9 yX9_joins wsX9_joins) := goodIn_app (goodIn_of _ (by decide +kernel)) ggX9_newOnes_X9_joins
set_option maxRecDepth 20000 in
theorem ggX9_newOnes_X9_isNew : GoodIn wsX9_newOnes wsX9_isNew := goodIn_r _ [10, 11, 12, 13, 14, 4, 15, 16, 17, 18, 19, 20, 21, 22, 23, 24, 25, 26, 27, 28, 29, 30, 31, 32, 33, 34, 35, 36, 37, 38, 39, 40, 41, 42, 43, 44, 45, 46, 47, 48, 49, 50, 51, 52, 53, 54, 55, 56, 57, 58, 59, 60, 61, 62, 63, 64, 65, 66, 67, 68] (by decide +kernel) (by decide +kernel)
set_option maxRecDepth 20000 in
theorem gX9_newOnes_X9_isNew : GoodIn wsX9_newOnes (wsV RX9 155 RX9 yX9_isNew wsX9_isNew) := goodIn_app (goodIn_of _ (by decide +kernel)) ggX9_newOnes_X9_isNew
set_option maxRecDepth 20000 in
theorem ggX9_canCome_X9_isIn : GoodIn wsX9_canCome wsX9_isIn := goodIn_r _ [7] (by decide +kernel) (by decide +kernel)
set_option maxRecDepth 20000 in
theorem gX9_canCome_X9_isIn : GoodIn wsX9_canCome (wsV RX9 101 RX9 yX9_isIn wsX9_isIn) := goodIn_app (goodIn_of _ (by decide +kernel)) ggX9_canCome_X9_isIn
set_option maxRecDepth 20000 in
theorem ggX9_canCome_X9_pointAt : GoodIn wsX9_canCome wsX9_pointAt := goodIn_r _ [11, 1, 12, 13, 14, 15, 16, 17, 18, 19, 20, 21, 22, 23, 24, 25, 26, 27, 28, 29, 30, 31, 32, 33, 34, 35, 36, 37, 38, 39, 40, 41, 42, 43, 44, 45, 46, 47, 48, 49, 50, 51] (by decide +kernel) (by decide +kernel)
set_option maxRecDepth 20000 in
theorem gX9_canCome_X9_pointAt : GoodIn wsX9_canCome (wsV RX9 161 RX9 yX9_pointAt wsX9_pointAt) := goodIn_app (goodIn_of _ (by decide +kernel)) ggX9_canCome_X9_pointAt
set_option maxRecDepth 20000 in
theorem ggX9_add_X9_canCome : GoodIn wsX9_add wsX9_canCome := goodIn_r _ [7, 8, 9, 10, 11, 12, 6, 13, 14, 15, 16, 17, 18, 19, 100, 101, 102, 103, 104, 105, 106, 107, 108, 109, 110, 111, 112, 113, 114, 115, 116, 117, 118, 119, 120, 121, 122, 123, 124, 125, 126, 127, 128, 129, 130, 131, 132, 133, 134, 135, 136, 137] (by decide +kernel) (by decide +kernel)
set_option maxRecDepth 20000 in
theorem gX9_add_X9_canCome : GoodIn wsX9_add (wsV RX9 164 RX9 yX9_canCome wsX9_canCome) := goodIn_app (goodIn_of _ (by decide +kernel)) ggX9_add_X9_canCome
set_option maxRecDepth 20000 in
theorem ggX9_add_X9_isIn : GoodIn wsX9_add wsX9_isIn := goodIn_r _ [13] (by decide +kernel) (by decide +kernel)
set_option maxRecDepth 20000 in
theorem gX9_add_X9_isIn : GoodIn wsX9_add (wsV RX9 101 RX9 yX9_isIn wsX9_isIn) := goodIn_app (goodIn_of _ (by decide +kernel)) ggX9_add_X9_isIn
set_option maxRecDepth 20000 in
theorem ggX9_add_X9_keeps : GoodIn wsX9_add wsX9_keeps := goodIn_r _ [23, 8, 24, 25, 26, 27, 28, 29, 30, 31, 32, 33, 34, 35, 6, 36, 19, 18, 37, 38, 39, 40, 100, 101, 102, 103, 104, 105, 106, 107, 108, 109, 110, 111, 112, 113, 114, 115, 116, 117, 118, 119, 120, 121, 122, 123, 124, 125, 126, 127, 128, 129, 130, 131, 132, 133, 134, 135, 136, 137] (by decide +kernel) (by decide +kernel)
set_option maxRecDepth 20000 in
theorem gX9_add_X9_keeps : GoodIn wsX9_add (wsV RX9 169 RX9 yX9_keeps wsX9_keeps) := goodIn_app (goodIn_of _ (by decide +kernel)) ggX9_add_X9_keeps
set_option maxRecDepth 20000 in
theorem ggX9_add_X9_comes : GoodIn wsX9_add wsX9_comes := goodIn_r _ [44, 8, 18, 19, 45, 100, 101, 102, 103, 104, 105, 106, 107, 108, 109, 110, 111, 112, 113, 114, 115, 116, 117, 118, 119, 120, 121, 122, 123, 124, 125, 126, 127, 128, 129, 130, 131, 132, 133, 134, 135, 136, 137] (by decide +kernel) (by decide +kernel)
set_option maxRecDepth 20000 in
theorem gX9_add_X9_comes : GoodIn wsX9_add (wsV RX9 172 RX9 yX9_comes wsX9_comes) := goodIn_app (goodIn_of _ (by decide +kernel)) ggX9_add_X9_comes
set_option maxRecDepth 20000 in
theorem ggX9_add_X9_laysTree : GoodIn wsX9_add wsX9_laysTree := goodIn_r _ [49, 8, 27, 29, 50, 51, 52, 53, 54, 55, 56, 31, 37, 38, 39, 6, 40, 57, 58, 59, 60, 61, 62, 63, 64, 65, 66, 67, 68, 18, 19, 69, 70, 71, 72, 73, 74, 75, 76, 77, 78, 79, 80, 81, 82, 83, 100, 101, 102, 103, 104, 105, 106, 107, 108, 109, 110, 111, 112, 113, 114, 115, 116, 117, 118, 119, 120, 121, 122, 123, 124, 125, 126, 127, 128, 129, 130, 131, 132, 133, 134, 135, 136, 137] (by decide +kernel) (by decide +kernel)
set_option maxRecDepth 20000 in
theorem gX9_add_X9_laysTree : GoodIn wsX9_add (wsV RX9 176 RX9 yX9_laysTree wsX9_laysTree) := goodIn_app (goodIn_of _ (by decide +kernel)) ggX9_add_X9_laysTree
set_option maxRecDepth 20000 in
theorem ggX9_add_X9_newOnes : GoodIn wsX9_add wsX9_newOnes := goodIn_r _ [87, 37, 38, 39, 6, 40, 8, 88, 89, 90, 91, 32, 92, 93, 94, 95, 24, 96, 97, 98, 99, 27, 29, 26, 28, 33, 34, 35, 36, 19, 18, 100, 101, 102, 103, 104, 105, 106, 107, 108, 109, 110, 111, 112, 113, 114, 115, 116, 117, 118, 119, 120, 121, 122, 123, 124, 125, 126, 127, 128, 129, 130, 131, 132, 133, 134, 135, 136, 137] (by decide +kernel) (by decide +kernel)
set_option maxRecDepth 20000 in
theorem gX9_add_X9_newOnes : GoodIn wsX9_add (wsV RX9 179 RX9 yX9_newOnes wsX9_newOnes) := goodIn_app (goodIn_of _ (by decide +kernel)) ggX9_add_X9_newOnes
set_option maxRecDepth 20000 in
theorem ggX9_take_X9_isPoint : GoodIn wsX9_take wsX9_isPoint := goodIn_r _ [6, 7, 8, 9, 10, 5, 11, 94, 95, 96, 97, 98, 99, 100, 101, 102, 103, 104, 105, 106, 107, 108, 109, 110, 111, 112, 113, 114, 115, 116, 117, 118, 119, 120, 121, 122, 123, 124, 125, 126, 127, 128, 129, 130, 131] (by decide +kernel) (by decide +kernel)
set_option maxRecDepth 20000 in
theorem gX9_take_X9_isPoint : GoodIn wsX9_take (wsV RX9 182 RX9 yX9_isPoint wsX9_isPoint) := goodIn_app (goodIn_of _ (by decide +kernel)) ggX9_take_X9_isPoint
set_option maxRecDepth 20000 in
theorem ggX9_take_X9_keeps : GoodIn wsX9_take wsX9_keeps := goodIn_r _ [15, 7, 16, 17, 18, 19, 20, 21, 22, 23, 24, 25, 26, 27, 5, 28, 29, 30, 31, 32, 33, 34, 94, 95, 96, 97, 98, 99, 100, 101, 102, 103, 104, 105, 106, 107, 108, 109, 110, 111, 112, 113, 114, 115, 116, 117, 118, 119, 120, 121, 122, 123, 124, 125, 126, 127, 128, 129, 130, 131] (by decide +kernel) (by decide +kernel)
set_option maxRecDepth 20000 in
theorem gX9_take_X9_keeps : GoodIn wsX9_take (wsV RX9 169 RX9 yX9_keeps wsX9_keeps) := goodIn_app (goodIn_of _ (by decide +kernel)) ggX9_take_X9_keeps
set_option maxRecDepth 20000 in
theorem ggX9_take_X9_goes : GoodIn wsX9_take wsX9_goes := goodIn_r _ [38, 7, 30, 29, 39, 94, 95, 96, 97, 98, 99, 100, 101, 102, 103, 104, 105, 106, 107, 108, 109, 110, 111, 112, 113, 114, 115, 116, 117, 118, 119, 120, 121, 122, 123, 124, 125, 126, 127, 128, 129, 130, 131] (by decide +kernel) (by decide +kernel)
set_option maxRecDepth 20000 in
theorem gX9_take_X9_goes : GoodIn wsX9_take (wsV RX9 185 RX9 yX9_goes wsX9_goes) := goodIn_app (goodIn_of _ (by decide +kernel)) ggX9_take_X9_goes
set_option maxRecDepth 20000 in
theorem ggX9_take_X9_laysTree : GoodIn wsX9_take wsX9_laysTree := goodIn_r _ [43, 7, 19, 21, 44, 45, 46, 47, 48, 49, 50, 23, 31, 32, 33, 5, 34, 51, 52, 53, 54, 55, 56, 57, 58, 59, 60, 61, 62, 30, 29, 63, 64, 65, 66, 67, 68, 69, 70, 71, 72, 73, 74, 75, 76, 77, 94, 95, 96, 97, 98, 99, 100, 101, 102, 103, 104, 105, 106, 107, 108, 109, 110, 111, 112, 113, 114, 115, 116, 117, 118, 119, 120, 121, 122, 123, 124, 125, 126, 127, 128, 129, 130, 131] (by decide +kernel) (by decide +kernel)
set_option maxRecDepth 20000 in
theorem gX9_take_X9_laysTree : GoodIn wsX9_take (wsV RX9 176 RX9 yX9_laysTree wsX9_laysTree) := goodIn_app (goodIn_of _ (by decide +kernel)) ggX9_take_X9_laysTree
set_option maxRecDepth 20000 in
theorem ggX9_take_X9_newOnes : GoodIn wsX9_take wsX9_newOnes := goodIn_r _ [81, 31, 32, 33, 5, 34, 7, 82, 83, 84, 85, 24, 86, 87, 88, 89, 16, 90, 91, 92, 93, 19, 21, 18, 20, 25, 26, 27, 28, 29, 30, 94, 95, 96, 97, 98, 99, 100, 101, 102, 103, 104, 105, 106, 107, 108, 109, 110, 111, 112, 113, 114, 115, 116, 117, 118, 119, 120, 121, 122, 123, 124, 125, 126, 127, 128, 129, 130, 131] (by decide +kernel) (by decide +kernel)
set_option maxRecDepth 20000 in
theorem gX9_take_X9_newOnes : GoodIn wsX9_take (wsV RX9 179 RX9 yX9_newOnes wsX9_newOnes) := goodIn_app (goodIn_of _ (by decide +kernel)) ggX9_take_X9_newOnes
set_option maxRecDepth 20000 in
theorem ggX9_weigh_X9_isPoint : GoodIn wsX9_weigh wsX9_isPoint := goodIn_r _ [8, 9, 10, 11, 12, 7, 13, 14, 15, 16, 17, 18, 19, 20, 21, 22, 23, 24, 25, 26, 27, 28, 29, 30, 31, 32, 33, 34, 35, 36, 37, 38, 39, 40, 41, 42, 43, 44, 45, 46, 47, 48, 49, 50, 51] (by decide +kernel) (by decide +kernel)
set_option maxRecDepth 20000 in
theorem gX9_weigh_X9_isPoint : GoodIn wsX9_weigh (wsV RX9 182 RX9 yX9_isPoint wsX9_isPoint) := goodIn_app (goodIn_of _ (by decide +kernel)) ggX9_weigh_X9_isPoint
set_option maxRecDepth 20000 in
theorem ggX9_weigh_X9_isIn : GoodIn wsX9_weigh wsX9_isIn := goodIn_r _ [13] (by decide +kernel) (by decide +kernel)
set_option maxRecDepth 20000 in
theorem gX9_weigh_X9_isIn : GoodIn wsX9_weigh (wsV RX9 101 RX9 yX9_isIn wsX9_isIn) := goodIn_app (goodIn_of _ (by decide +kernel)) ggX9_weigh_X9_isIn
set_option maxRecDepth 20000 in
theorem ggX9_scatter_X9_isIn : GoodIn wsX9_scatter wsX9_isIn := goodIn_r _ [7] (by decide +kernel) (by decide +kernel)
set_option maxRecDepth 20000 in
theorem gX9_scatter_X9_isIn : GoodIn wsX9_scatter (wsV RX9 101 RX9 yX9_isIn wsX9_isIn) := goodIn_app (goodIn_of _ (by decide +kernel)) ggX9_scatter_X9_isIn
set_option maxRecDepth 20000 in
theorem ggX9_scatter_X9_keeps : GoodIn wsX9_scatter wsX9_keeps := goodIn_r _ [11, 12, 13, 14, 15, 16, 17, 18, 19, 20, 21, 22, 23, 24, 6, 25, 26, 27, 28, 29, 30, 31, 91, 92, 93, 94, 95, 96, 97, 98, 99, 100, 101, 102, 103, 104, 105, 106, 107, 108, 109, 110, 111, 112, 113, 114, 115, 116, 117, 118, 119, 120, 121, 122, 123, 124, 125, 126, 127, 128] (by decide +kernel) (by decide +kernel)
set_option maxRecDepth 20000 in
theorem gX9_scatter_X9_keeps : GoodIn wsX9_scatter (wsV RX9 169 RX9 yX9_keeps wsX9_keeps) := goodIn_app (goodIn_of _ (by decide +kernel)) ggX9_scatter_X9_keeps
set_option maxRecDepth 20000 in
theorem ggX9_scatter_X9_draw : GoodIn wsX9_scatter wsX9_draw := goodIn_r _ [35, 36, 37, 38, 91, 92, 93, 94, 95, 96, 97, 98, 99, 100, 101, 102, 103, 104, 105, 106, 107, 108, 109, 110, 111, 112, 113, 114, 115, 116, 117, 118, 119, 120, 121, 122, 123, 124, 125, 126, 127, 128] (by decide +kernel) (by decide +kernel)
set_option maxRecDepth 20000 in
theorem gX9_scatter_X9_draw : GoodIn wsX9_scatter (wsV RX9 196 RX9 yX9_draw wsX9_draw) := goodIn_app (goodIn_of _ (by decide +kernel)) ggX9_scatter_X9_draw
set_option maxRecDepth 20000 in
theorem ggX9_scatter_X9_canCome : GoodIn wsX9_scatter wsX9_canCome := goodIn_r _ [42, 12, 43, 3, 4, 5, 6, 7, 44, 45, 46, 47, 27, 26, 91, 92, 93, 94, 95, 96, 97, 98, 99, 100, 101, 102, 103, 104, 105, 106, 107, 108, 109, 110, 111, 112, 113, 114, 115, 116, 117, 118, 119, 120, 121, 122, 123, 124, 125, 126, 127, 128] (by decide +kernel) (by decide +kernel)
set_option maxRecDepth 20000 in
theorem gX9_scatter_X9_canCome : GoodIn wsX9_scatter (wsV RX9 164 RX9 yX9_canCome wsX9_canCome) := goodIn_app (goodIn_of _ (by decide +kernel)) ggX9_scatter_X9_canCome
set_option maxRecDepth 20000 in
theorem ggX9_scatter_X9_comes : GoodIn wsX9_scatter wsX9_comes := goodIn_r _ [51, 12, 27, 26, 52, 91, 92, 93, 94, 95, 96, 97, 98, 99, 100, 101, 102, 103, 104, 105, 106, 107, 108, 109, 110, 111, 112, 113, 114, 115, 116, 117, 118, 119, 120, 121, 122, 123, 124, 125, 126, 127, 128] (by decide +kernel) (by decide +kernel)
set_option maxRecDepth 20000 in
theorem gX9_scatter_X9_comes : GoodIn wsX9_scatter (wsV RX9 172 RX9 yX9_comes wsX9_comes) := goodIn_app (goodIn_of _ (by decide +kernel)) ggX9_scatter_X9_comes
set_option maxRecDepth 20000 in
theorem ggX9_scatter_X9_laysTree : GoodIn wsX9_scatter wsX9_laysTree := goodIn_r _ [56, 12, 16, 18, 57, 58, 59, 60, 61, 62, 63, 20, 28, 29, 30, 6, 31, 64, 65, 66, 67, 68, 69, 70, 71, 72, 73, 74, 75, 27, 26, 76, 77, 78, 79, 80, 81, 82, 83, 84, 85, 86, 87, 88, 89, 90, 91, 92, 93, 94, 95, 96, 97, 98, 99, 100, 101, 102, 103, 104, 105, 106, 107, 108, 109, 110, 111, 112, 113, 114, 115, 116, 117, 118, 119, 120, 121, 122, 123, 124, 125, 126, 127, 128] (by decide +kernel) (by decide +kernel)
set_option maxRecDepth 20000 in
theorem gX9_scatter_X9_laysTree : GoodIn wsX9_scatter (wsV RX9 176 RX9 yX9_laysTree wsX9_laysTree) := goodIn_app (goodIn_of _ (by decide +kernel)) ggX9_scatter_X9_laysTree
set_option maxRecDepth 20000 in
theorem ggX9_clear_X9_keeps : GoodIn wsX9_clear wsX9_keeps := goodIn_r _ [7, 2, 8, 9, 10, 11, 12, 13, 14, 15, 16, 17, 18, 19, 6, 20, 21, 22, 23, 24, 25, 26, 27, 28, 29, 30, 31, 32, 33, 34, 35, 36, 37, 38, 39, 40, 41, 42, 43, 44, 45, 46, 47, 48, 49, 50, 51, 52, 53, 54, 55, 56, 57, 58, 59, 60, 61, 62, 63, 64] (by decide +kernel) (by decide +kernel)
set_option maxRecDepth 20000 in
theorem gX9_clear_X9_keeps : GoodIn wsX9_clear (wsV RX9 169 RX9 yX9_keeps wsX9_keeps) := goodIn_app (goodIn_of _ (by decide +kernel)) ggX9_clear_X9_keeps
set_option maxRecDepth 20000 in
theorem ggX9_size_X9_isIn : GoodIn wsX9_size wsX9_isIn := goodIn_r _ [8] (by decide +kernel) (by decide +kernel)
set_option maxRecDepth 20000 in
theorem gX9_size_X9_isIn : GoodIn wsX9_size (wsV RX9 101 RX9 yX9_isIn wsX9_isIn) := goodIn_app (goodIn_of _ (by decide +kernel)) ggX9_size_X9_isIn
set_option maxRecDepth 20000 in
theorem ggX9_nearestOf_X9_isSooner : GoodIn wsX9_nearestOf wsX9_isSooner := goodIn_r _ [6, 7, 8, 9, 10, 11, 12, 13, 14, 15, 16, 5, 17, 18, 19, 20, 21, 22, 23, 24, 25, 26, 27, 28, 29, 30, 31, 32, 33, 34, 35, 36, 37, 38, 39, 40, 41, 42, 43, 44, 45, 46, 47, 48, 49, 50, 51, 52, 53, 54, 55, 56, 57] (by decide +kernel) (by decide +kernel)
set_option maxRecDepth 20000 in
theorem gX9_nearestOf_X9_isSooner : GoodIn wsX9_nearestOf (wsV RX9 127 RX9 yX9_isSooner wsX9_isSooner) := goodIn_app (goodIn_of _ (by decide +kernel)) ggX9_nearestOf_X9_isSooner
set_option maxRecDepth 20000 in
theorem ggX9_linksOf_X9_joins : GoodIn wsX9_linksOf wsX9_joins := goodIn_r _ [7, 8, 9, 10, 11, 12, 13, 14, 15, 16, 17, 18, 19, 20, 21, 22, 23, 24, 25, 26, 27, 28, 29, 30, 31, 32, 33, 34, 35, 36, 37, 38, 39, 40, 41, 42, 43, 44, 45, 46] (by decide +kernel) (by decide +kernel)
set_option maxRecDepth 20000 in
theorem gX9_linksOf_X9_joins : GoodIn wsX9_linksOf (wsV RX9 119 RX9 yX9_joins wsX9_joins) := goodIn_app (goodIn_of _ (by decide +kernel)) ggX9_linksOf_X9_joins
set_option maxRecDepth 20000 in
theorem ggX9_point_X9_isPoint : GoodIn wsX9_point wsX9_isPoint := goodIn_r _ [9, 10, 11, 12, 13, 8, 14, 44, 45, 46, 47, 48, 49, 50, 51, 52, 53, 54, 55, 56, 57, 58, 59, 60, 61, 62, 63, 64, 65, 66, 67, 68, 69, 70, 71, 72, 73, 74, 75, 76, 77, 78, 79, 80, 81] (by decide +kernel) (by decide +kernel)
set_option maxRecDepth 20000 in
theorem gX9_point_X9_isPoint : GoodIn wsX9_point (wsV RX9 182 RX9 yX9_isPoint wsX9_isPoint) := goodIn_app (goodIn_of _ (by decide +kernel)) ggX9_point_X9_isPoint
set_option maxRecDepth 20000 in
theorem ggX9_point_X9_linksOf : GoodIn wsX9_point wsX9_linksOf := goodIn_r _ [18, 19, 20, 21, 22, 23, 8, 24, 10, 44, 45, 46, 47, 48, 49, 50, 51, 52, 53, 54, 55, 56, 57, 58, 59, 60, 61, 62, 63, 64, 65, 66, 67, 68, 69, 70, 71, 72, 73, 74, 75, 76, 77, 78, 79, 80, 81] (by decide +kernel) (by decide +kernel)
set_option maxRecDepth 20000 in
theorem gX9_point_X9_linksOf : GoodIn wsX9_point (wsV RX9 201 RX9 yX9_linksOf wsX9_linksOf) := goodIn_app (goodIn_of _ (by decide +kernel)) ggX9_point_X9_linksOf
set_option maxRecDepth 20000 in
theorem ggX9_point_X9_nearestOf : GoodIn wsX9_point wsX9_nearestOf := goodIn_r _ [28, 10, 29, 30, 31, 8, 32, 33, 34, 35, 36, 37, 38, 39, 40, 41, 42, 43, 2, 3, 44, 45, 46, 47, 48, 49, 50, 51, 52, 53, 54, 55, 56, 57, 58, 59, 60, 61, 62, 63, 64, 65, 66, 67, 68, 69, 70, 71, 72, 73, 74, 75, 76, 77, 78, 79, 80, 81] (by decide +kernel) (by decide +kernel)
set_option maxRecDepth 20000 in
theorem gX9_point_X9_nearestOf : GoodIn wsX9_point (wsV RX9 204 RX9 yX9_nearestOf wsX9_nearestOf) := goodIn_app (goodIn_of _ (by decide +kernel)) ggX9_point_X9_nearestOf
set_option maxRecDepth 20000 in
theorem ggX9_point_X9_apart : GoodIn wsX9_point wsX9_apart := goodIn_r _ [43, 2, 3, 44, 45, 46, 47, 48, 49, 50, 51, 52, 53, 54, 55, 56, 57, 58, 59, 60, 61, 62, 63, 64, 65, 66, 67, 68, 69, 70, 71, 72, 73, 74, 75, 76, 77, 78, 79, 80, 81] (by decide +kernel) (by decide +kernel)
set_option maxRecDepth 20000 in
theorem gX9_point_X9_apart : GoodIn wsX9_point (wsV RX9 107 RX9 yX9_apart wsX9_apart) := goodIn_app (goodIn_of _ (by decide +kernel)) ggX9_point_X9_apart
set_option maxRecDepth 20000 in
theorem ggX9_at_X9_pointAt : GoodIn wsX9_at wsX9_pointAt := goodIn_r _ [6, 7, 8, 9, 10, 11, 12, 13, 14, 15, 16, 17, 18, 19, 20, 21, 22, 23, 24, 25, 26, 27, 28, 29, 30, 31, 32, 33, 34, 35, 36, 37, 38, 39, 40, 41, 42, 43, 44, 45, 46, 47] (by decide +kernel) (by decide +kernel)
set_option maxRecDepth 20000 in
theorem gX9_at_X9_pointAt : GoodIn wsX9_at (wsV RX9 161 RX9 yX9_pointAt wsX9_pointAt) := goodIn_app (goodIn_of _ (by decide +kernel)) ggX9_at_X9_pointAt
set_option maxRecDepth 20000 in
theorem ggX9_near_X9_isIn : GoodIn wsX9_near wsX9_isIn := goodIn_r _ [9] (by decide +kernel) (by decide +kernel)
set_option maxRecDepth 20000 in
theorem gX9_near_X9_isIn : GoodIn wsX9_near (wsV RX9 101 RX9 yX9_isIn wsX9_isIn) := goodIn_app (goodIn_of _ (by decide +kernel)) ggX9_near_X9_isIn
set_option maxRecDepth 20000 in
theorem ggX9_near_X9_farFrom : GoodIn wsX9_near wsX9_farFrom := goodIn_r _ [13, 14, 15, 16, 17, 18, 19, 20, 21, 22, 23, 24, 25, 26, 27, 28, 29, 30, 31, 32, 33, 34, 35, 36, 37, 38, 39, 40, 41, 42, 43, 44, 45, 46, 47, 48, 49, 50, 51, 52, 53] (by decide +kernel) (by decide +kernel)
set_option maxRecDepth 20000 in
theorem gX9_near_X9_farFrom : GoodIn wsX9_near (wsV RX9 211 RX9 yX9_farFrom wsX9_farFrom) := goodIn_app (goodIn_of _ (by decide +kernel)) ggX9_near_X9_farFrom
set_option maxRecDepth 20000 in
theorem ggX9_isJoin_X9_joins : GoodIn wsX9_isJoin wsX9_joins := goodIn_r _ [5, 6, 11, 12, 13, 14, 15, 16, 17, 18, 19, 20, 21, 22, 23, 24, 25, 26, 27, 28, 29, 30, 31, 32, 33, 34, 35, 36, 37, 38, 39, 40, 41, 42, 43, 44, 45, 46, 47, 48] (by decide +kernel) (by decide +kernel)
set_option maxRecDepth 20000 in
theorem gX9_isJoin_X9_joins : GoodIn wsX9_isJoin (wsV RX9 119 RX9 yX9_joins wsX9_joins) := goodIn_app (goodIn_of _ (by decide +kernel)) ggX9_isJoin_X9_joins
set_option maxRecDepth 20000 in
theorem ggX9_isJoin_X9_isIn : GoodIn wsX9_isJoin wsX9_isIn := goodIn_r _ [10] (by decide +kernel) (by decide +kernel)
set_option maxRecDepth 20000 in
theorem gX9_isJoin_X9_isIn : GoodIn wsX9_isJoin (wsV RX9 101 RX9 yX9_isIn wsX9_isIn) := goodIn_app (goodIn_of _ (by decide +kernel)) ggX9_isJoin_X9_isIn
set_option maxRecDepth 20000 in
theorem ggX9_lasts_X9_weightOf : GoodIn wsX9_lasts wsX9_weightOf := goodIn_r _ [9, 10, 11, 12, 13, 14, 8, 15, 20, 21, 22, 23, 24, 25, 26, 27, 28, 29, 30, 31, 32, 33, 34, 35, 36, 37, 38, 39, 40, 41, 42, 43, 44, 45, 46, 47, 48, 49, 50, 51, 52, 53, 54, 55, 56, 57] (by decide +kernel) (by decide +kernel)
set_option maxRecDepth 20000 in
theorem gX9_lasts_X9_weightOf : GoodIn wsX9_lasts (wsV RX9 215 RX9 yX9_weightOf wsX9_weightOf) := goodIn_app (goodIn_of _ (by decide +kernel)) ggX9_lasts_X9_weightOf
set_option maxRecDepth 20000 in
theorem ggX9_lasts_X9_root : GoodIn wsX9_lasts wsX9_root := goodIn_r _ [19] (by decide +kernel) (by decide +kernel)
set_option maxRecDepth 20000 in
theorem gX9_lasts_X9_root : GoodIn wsX9_lasts (wsV RX9 218 RX9 yX9_root wsX9_root) := goodIn_app (goodIn_of _ (by decide +kernel)) ggX9_lasts_X9_root
set_option maxRecDepth 20000 in
theorem ggX9_join_X9_isJoin : GoodIn wsX9_join wsX9_isJoin := goodIn_r _ [13, 14, 15, 16, 12, 17, 18, 19, 20, 21, 22, 67, 68, 69, 70, 71, 72, 73, 74, 75, 76, 77, 78, 79, 80, 81, 82, 83, 84, 85, 86, 87, 88, 89, 90, 91, 92, 93, 94, 95, 96, 97, 98, 99, 100, 101, 102, 103, 104] (by decide +kernel) (by decide +kernel)
set_option maxRecDepth 20000 in
theorem gX9_join_X9_isJoin : GoodIn wsX9_join (wsV RX9 221 RX9 yX9_isJoin wsX9_isJoin) := goodIn_app (goodIn_of _ (by decide +kernel)) ggX9_join_X9_isJoin
set_option maxRecDepth 20000 in
theorem ggX9_join_X9_bits : GoodIn wsX9_join wsX9_bits := goodIn_r _ [26, 27, 28, 29, 12, 30] (by decide +kernel) (by decide +kernel)
set_option maxRecDepth 20000 in
theorem gX9_join_X9_bits : GoodIn wsX9_join (wsV RX9 224 RX9 yX9_bits wsX9_bits) := goodIn_app (goodIn_of _ (by decide +kernel)) ggX9_join_X9_bits
set_option maxRecDepth 20000 in
theorem ggX9_join_X9_weightOf : GoodIn wsX9_join wsX9_weightOf := goodIn_r _ [34, 18, 35, 27, 28, 29, 12, 30, 67, 68, 69, 70, 71, 72, 73, 74, 75, 76, 77, 78, 79, 80, 81, 82, 83, 84, 85, 86, 87, 88, 89, 90, 91, 92, 93, 94, 95, 96, 97, 98, 99, 100, 101, 102, 103, 104] (by decide +kernel) (by decide +kernel)
set_option maxRecDepth 20000 in
theorem gX9_join_X9_weightOf : GoodIn wsX9_join (wsV RX9 215 RX9 yX9_weightOf wsX9_weightOf) := goodIn_app (goodIn_of _ (by decide +kernel)) ggX9_join_X9_weightOf
set_option maxRecDepth 20000 in
theorem ggX9_join_X9_lasts : GoodIn wsX9_join wsX9_lasts := goodIn_r _ [39, 5, 40, 8, 2, 31, 32, 33, 12, 34, 18, 35, 27, 28, 29, 30, 41, 42, 43, 44, 67, 68, 69, 70, 71, 72, 73, 74, 75, 76, 77, 78, 79, 80, 81, 82, 83, 84, 85, 86, 87, 88, 89, 90, 91, 92, 93, 94, 95, 96, 97, 98, 99, 100, 101, 102, 103, 104] (by decide +kernel) (by decide +kernel)
set_option maxRecDepth 20000 in
theorem gX9_join_X9_lasts : GoodIn wsX9_join (wsV RX9 227 RX9 yX9_lasts wsX9_lasts) := goodIn_app (goodIn_of _ (by decide +kernel)) ggX9_join_X9_lasts
set_option maxRecDepth 20000 in
theorem ggX9_join_X9_isNew : GoodIn wsX9_join wsX9_isNew := goodIn_r _ [48, 49, 50, 51, 52, 12, 53, 54, 55, 56, 57, 58, 3, 4, 59, 60, 61, 62, 63, 64, 65, 66, 67, 68, 69, 70, 71, 72, 73, 74, 75, 76, 77, 78, 79, 80, 81, 82, 83, 84, 85, 86, 87, 88, 89, 90, 91, 92, 93, 94, 95, 96, 97, 98, 99, 100, 101, 102, 103, 104] (by decide +kernel) (by decide +kernel)
set_option maxRecDepth 20000 in
theorem gX9_join_X9_isNew : GoodIn wsX9_join (wsV RX9 155 RX9 yX9_isNew wsX9_isNew) := goodIn_app (goodIn_of _ (by decide +kernel)) ggX9_join_X9_isNew
set_option maxRecDepth 20000 in
theorem ggX9_meets_X9_isPoint : GoodIn wsX9_meets wsX9_isPoint := goodIn_r _ [7, 8, 9, 10, 11, 6, 12, 17, 18, 19, 20, 21, 22, 23, 24, 25, 26, 27, 28, 29, 30, 31, 32, 33, 34, 35, 36, 37, 38, 39, 40, 41, 42, 43, 44, 45, 46, 47, 48, 49, 50, 51, 52, 53, 54] (by decide +kernel) (by decide +kernel)
set_option maxRecDepth 20000 in
theorem gX9_meets_X9_isPoint : GoodIn wsX9_meets (wsV RX9 182 RX9 yX9_isPoint wsX9_isPoint) := goodIn_app (goodIn_of _ (by decide +kernel)) ggX9_meets_X9_isPoint
set_option maxRecDepth 20000 in
theorem ggX9_meets_X9_has : GoodIn wsX9_meets wsX9_has := goodIn_r _ [16] (by decide +kernel) (by decide +kernel)
set_option maxRecDepth 20000 in
theorem gX9_meets_X9_has : GoodIn wsX9_meets (wsV RX9 123 RX9 yX9_has wsX9_has) := goodIn_app (goodIn_of _ (by decide +kernel)) ggX9_meets_X9_has
set_option maxRecDepth 20000 in
theorem ggX9_goesAlong_X9_joins : GoodIn wsX9_goesAlong wsX9_joins := goodIn_r _ [9, 10, 14, 15, 16, 17, 18, 19, 20, 21, 22, 23, 24, 25, 26, 27, 28, 29, 30, 31, 32, 33, 34, 35, 36, 37, 38, 39, 40, 41, 42, 43, 44, 45, 46, 47, 48, 49, 50, 51] (by decide +kernel) (by decide +kernel)
set_option maxRecDepth 20000 in
theorem gX9_goesAlong_X9_joins : GoodIn wsX9_goesAlong (wsV RX9 119 RX9 yX9_joins wsX9_joins) := goodIn_app (goodIn_of _ (by decide +kernel)) ggX9_goesAlong_X9_joins
set_option maxRecDepth 20000 in
theorem ggX9_goesAlong_X9_goesAlong : GoodIn wsX9_goesAlong wsX9_goesAlong := goodIn_r _ [0, 1, 2, 3, 4, 5, 6, 7, 8, 9, 10, 11, 12, 13, 14, 15, 16, 17, 18, 19, 20, 21, 22, 23, 24, 25, 26, 27, 28, 29, 30, 31, 32, 33, 34, 35, 36, 37, 38, 39, 40, 41, 42, 43, 44, 45, 46, 47, 48, 49, 50, 51] (by decide +kernel) (by decide +kernel)
set_option maxRecDepth 20000 in
theorem gX9_goesAlong_X9_goesAlong : GoodIn wsX9_goesAlong (wsV RX9 233 RX9 yX9_goesAlong wsX9_goesAlong) := goodIn_app (goodIn_of _ (by decide +kernel)) ggX9_goesAlong_X9_goesAlong
set_option maxRecDepth 20000 in
theorem ggX9_path_X9_isPoint : GoodIn wsX9_path wsX9_isPoint := goodIn_r _ [8, 9, 10, 11, 12, 7, 13, 24, 25, 26, 27, 28, 29, 30, 31, 32, 33, 34, 35, 36, 37, 38, 39, 40, 41, 42, 43, 44, 45, 46, 47, 48, 49, 50, 51, 52, 53, 54, 55, 56, 57, 58, 59, 60, 61] (by decide +kernel) (by decide +kernel)
set_option maxRecDepth 20000 in
theorem gX9_path_X9_isPoint : GoodIn wsX9_path (wsV RX9 182 RX9 yX9_isPoint wsX9_isPoint) := goodIn_app (goodIn_of _ (by decide +kernel)) ggX9_path_X9_isPoint
set_option maxRecDepth 20000 in
theorem ggX9_path_X9_goesAlong : GoodIn wsX9_path wsX9_goesAlong := goodIn_r _ [17, 3, 2, 18, 19, 20, 21, 22, 7, 23, 9, 14, 15, 16, 24, 25, 26, 27, 28, 29, 30, 31, 32, 33, 34, 35, 36, 37, 38, 39, 40, 41, 42, 43, 44, 45, 46, 47, 48, 49, 50, 51, 52, 53, 54, 55, 56, 57, 58, 59, 60, 61] (by decide +kernel) (by decide +kernel)
set_option maxRecDepth 20000 in
theorem gX9_path_X9_goesAlong : GoodIn wsX9_path (wsV RX9 233 RX9 yX9_goesAlong wsX9_goesAlong) := goodIn_app (goodIn_of _ (by decide +kernel)) ggX9_path_X9_goesAlong
set_option maxRecDepth 20000 in
theorem ggX9_path_X9_isIn : GoodIn wsX9_path wsX9_isIn := goodIn_r _ [13] (by decide +kernel) (by decide +kernel)
set_option maxRecDepth 20000 in
theorem gX9_path_X9_isIn : GoodIn wsX9_path (wsV RX9 101 RX9 yX9_isIn wsX9_isIn) := goodIn_app (goodIn_of _ (by decide +kernel)) ggX9_path_X9_isIn
set_option maxRecDepth 20000 in
theorem ggX9_rootsAlong_X9_goesAlong : GoodIn wsX9_rootsAlong wsX9_goesAlong := goodIn_r _ [7, 2, 1, 8, 9, 10, 11, 12, 6, 13, 14, 3, 4, 5, 25, 26, 27, 28, 29, 30, 31, 32, 33, 34, 35, 36, 37, 38, 39, 40, 41, 42, 43, 44, 45, 46, 47, 48, 49, 50, 51, 52, 53, 54, 55, 56, 57, 58, 59, 60, 61, 62] (by decide +kernel) (by decide +kernel)
set_option maxRecDepth 20000 in
theorem gX9_rootsAlong_X9_goesAlong : GoodIn wsX9_rootsAlong (wsV RX9 233 RX9 yX9_goesAlong wsX9_goesAlong) := goodIn_app (goodIn_of _ (by decide +kernel)) ggX9_rootsAlong_X9_goesAlong
set_option maxRecDepth 20000 in
theorem ggX9_rootsAlong_X9_apart : GoodIn wsX9_rootsAlong wsX9_apart := goodIn_r _ [18, 19, 20, 25, 26, 27, 28, 29, 30, 31, 32, 33, 34, 35, 36, 37, 38, 39, 40, 41, 42, 43, 44, 45, 46, 47, 48, 49, 50, 51, 52, 53, 54, 55, 56, 57, 58, 59, 60, 61, 62] (by decide +kernel) (by decide +kernel)
set_option maxRecDepth 20000 in
theorem gX9_rootsAlong_X9_apart : GoodIn wsX9_rootsAlong (wsV RX9 107 RX9 yX9_apart wsX9_apart) := goodIn_app (goodIn_of _ (by decide +kernel)) ggX9_rootsAlong_X9_apart
set_option maxRecDepth 20000 in
theorem ggX9_rootsAlong_X9_root : GoodIn wsX9_rootsAlong wsX9_root := goodIn_r _ [24] (by decide +kernel) (by decide +kernel)
set_option maxRecDepth 20000 in
theorem gX9_rootsAlong_X9_root : GoodIn wsX9_rootsAlong (wsV RX9 218 RX9 yX9_root wsX9_root) := goodIn_app (goodIn_of _ (by decide +kernel)) ggX9_rootsAlong_X9_root
set_option maxRecDepth 20000 in
theorem ggX9_longest_X9_isIn : GoodIn wsX9_longest wsX9_isIn := goodIn_r _ [8] (by decide +kernel) (by decide +kernel)
set_option maxRecDepth 20000 in
theorem gX9_longest_X9_isIn : GoodIn wsX9_longest (wsV RX9 101 RX9 yX9_isIn wsX9_isIn) := goodIn_app (goodIn_of _ (by decide +kernel)) ggX9_longest_X9_isIn
set_option maxRecDepth 20000 in
theorem ggX9_longest_X9_rootsAlong : GoodIn wsX9_longest wsX9_rootsAlong := goodIn_r _ [12, 13, 14, 15, 16, 17, 7, 18, 19, 20, 21, 22, 23, 24, 2, 25, 26, 27, 28, 29, 30, 31, 32, 33, 34, 35, 36, 37, 38, 39, 40, 41, 42, 43, 44, 45, 46, 47, 48, 49, 50, 51, 52, 53, 54, 55, 56, 57, 58, 59, 60, 61, 62, 63, 64, 65, 66, 67, 68, 69, 70, 71, 72] (by decide +kernel) (by decide +kernel)
set_option maxRecDepth 20000 in
theorem gX9_longest_X9_rootsAlong : GoodIn wsX9_longest (wsV RX9 239 RX9 yX9_rootsAlong wsX9_rootsAlong) := goodIn_app (goodIn_of _ (by decide +kernel)) ggX9_longest_X9_rootsAlong
set_option maxRecDepth 20000 in
theorem ggX9_laysParts_X9_has : GoodIn wsX9_laysParts wsX9_has := goodIn_r _ [8] (by decide +kernel) (by decide +kernel)
set_option maxRecDepth 20000 in
theorem gX9_laysParts_X9_has : GoodIn wsX9_laysParts (wsV RX9 123 RX9 yX9_has wsX9_has) := goodIn_app (goodIn_of _ (by decide +kernel)) ggX9_laysParts_X9_has
set_option maxRecDepth 20000 in
theorem ggX9_joinsOf_X9_joins : GoodIn wsX9_joinsOf wsX9_joins := goodIn_r _ [6, 7, 12, 13, 14, 15, 16, 17, 18, 19, 20, 21, 22, 23, 24, 25, 26, 27, 28, 29, 30, 31, 32, 33, 34, 35, 36, 37, 38, 39, 40, 41, 42, 43, 44, 45, 46, 47, 48, 49] (by decide +kernel) (by decide +kernel)
set_option maxRecDepth 20000 in
theorem gX9_joinsOf_X9_joins : GoodIn wsX9_joinsOf (wsV RX9 119 RX9 yX9_joins wsX9_joins) := goodIn_app (goodIn_of _ (by decide +kernel)) ggX9_joinsOf_X9_joins
set_option maxRecDepth 20000 in
theorem ggX9_joinsOf_X9_radius : GoodIn wsX9_joinsOf wsX9_radius := goodIn_r _ [11] (by decide +kernel) (by decide +kernel)
set_option maxRecDepth 20000 in
theorem gX9_joinsOf_X9_radius : GoodIn wsX9_joinsOf (wsV RX9 242 RX9 yX9_radius wsX9_radius) := goodIn_app (goodIn_of _ (by decide +kernel)) ggX9_joinsOf_X9_radius
set_option maxRecDepth 20000 in
theorem ggX9_laysZoom_X9_joinsOf : GoodIn wsX9_laysZoom wsX9_joinsOf := goodIn_r _ [5, 6, 7, 8, 9, 4, 10, 11, 12, 13, 14, 15, 26, 27, 28, 29, 30, 31, 32, 33, 34, 35, 36, 37, 38, 39, 40, 41, 42, 43, 44, 45, 46, 47, 48, 49, 50, 51, 52, 53, 54, 55, 56, 57, 58, 59, 60, 61, 62, 63] (by decide +kernel) (by decide +kernel)
set_option maxRecDepth 20000 in
theorem gX9_laysZoom_X9_joinsOf : GoodIn wsX9_laysZoom (wsV RX9 245 RX9 yX9_joinsOf wsX9_joinsOf) := goodIn_app (goodIn_of _ (by decide +kernel)) ggX9_laysZoom_X9_joinsOf
set_option maxRecDepth 20000 in
theorem ggX9_laysZoom_X9_laysParts : GoodIn wsX9_laysZoom wsX9_laysParts := goodIn_r _ [19, 11, 20, 21, 22, 23, 24, 4, 25, 26, 27, 28, 29, 30, 31, 32, 33, 34, 35, 36, 37, 38, 39, 40, 41, 42, 43, 44, 45, 46, 47, 48, 49, 50, 51, 52, 53, 54, 55, 56, 57, 58, 59, 60, 61, 62, 63] (by decide +kernel) (by decide +kernel)
set_option maxRecDepth 20000 in
theorem gX9_laysZoom_X9_laysParts : GoodIn wsX9_laysZoom (wsV RX9 248 RX9 yX9_laysParts wsX9_laysParts) := goodIn_app (goodIn_of _ (by decide +kernel)) ggX9_laysZoom_X9_laysParts
set_option maxRecDepth 20000 in
theorem ggX9_isFirst_X9_least : GoodIn wsX9_isFirst wsX9_least := goodIn_r _ [6, 7, 8, 9, 5, 10] (by decide +kernel) (by decide +kernel)
set_option maxRecDepth 20000 in
theorem gX9_isFirst_X9_least : GoodIn wsX9_isFirst (wsV RX9 251 RX9 yX9_least wsX9_least) := goodIn_app (goodIn_of _ (by decide +kernel)) ggX9_isFirst_X9_least
set_option maxRecDepth 20000 in
theorem ggX9_partsNow_X9_isFirst : GoodIn wsX9_partsNow wsX9_isFirst := goodIn_r _ [6, 7, 8, 9, 10, 5, 11, 12, 13, 14, 15, 16, 17, 18, 19, 20, 21, 22, 23, 24, 25, 26, 27, 28, 29, 30, 31, 32, 33, 34, 35, 36, 37, 38, 39, 40, 41, 42, 43, 44, 45, 46, 47, 48, 49, 50, 51, 52, 53] (by decide +kernel) (by decide +kernel)
set_option maxRecDepth 20000 in
theorem gX9_partsNow_X9_isFirst : GoodIn wsX9_partsNow (wsV RX9 254 RX9 yX9_isFirst wsX9_isFirst) := goodIn_app (goodIn_of _ (by decide +kernel)) ggX9_partsNow_X9_isFirst
set_option maxRecDepth 20000 in
theorem ggX9_groupSet_X9_isZoom : GoodIn wsX9_groupSet wsX9_isZoom := goodIn_r _ [7, 8, 9, 10, 11, 6, 12] (by decide +kernel) (by decide +kernel)
set_option maxRecDepth 20000 in
theorem gX9_groupSet_X9_isZoom : GoodIn wsX9_groupSet (wsV RX9 257 RX9 yX9_isZoom wsX9_isZoom) := goodIn_app (goodIn_of _ (by decide +kernel)) ggX9_groupSet_X9_isZoom
set_option maxRecDepth 20000 in
theorem ggX9_groupSet_X9_laysZoom : GoodIn wsX9_groupSet wsX9_laysZoom := goodIn_r _ [16, 17, 18, 19, 6, 20, 21, 22, 23, 24, 25, 1, 26, 27, 28, 29, 30, 31, 32, 33, 2, 34, 35, 36, 37, 38, 47, 48, 49, 50, 51, 52, 53, 54, 55, 56, 57, 58, 59, 60, 61, 62, 63, 64, 65, 66, 67, 68, 69, 70, 71, 72, 73, 74, 75, 76, 77, 78, 79, 80, 81, 82, 83, 84] (by decide +kernel) (by decide +kernel)
set_option maxRecDepth 20000 in
theorem gX9_groupSet_X9_laysZoom : GoodIn wsX9_groupSet (wsV RX9 260 RX9 yX9_laysZoom wsX9_laysZoom) := goodIn_app (goodIn_of _ (by decide +kernel)) ggX9_groupSet_X9_laysZoom
set_option maxRecDepth 20000 in
theorem ggX9_groupSet_X9_isFirst : GoodIn wsX9_groupSet wsX9_isFirst := goodIn_r _ [42, 2, 43, 44, 45, 6, 46, 35, 36, 37, 38, 47, 48, 49, 50, 51, 52, 53, 54, 55, 56, 57, 58, 59, 60, 61, 62, 63, 64, 65, 66, 67, 68, 69, 70, 71, 72, 73, 74, 75, 76, 77, 78, 79, 80, 81, 82, 83, 84] (by decide +kernel) (by decide +kernel)
set_option maxRecDepth 20000 in
theorem gX9_groupSet_X9_isFirst : GoodIn wsX9_groupSet (wsV RX9 254 RX9 yX9_isFirst wsX9_isFirst) := goodIn_app (goodIn_of _ (by decide +kernel)) ggX9_groupSet_X9_isFirst
set_option maxRecDepth 20000 in
theorem ggX9_numberOf_X9_least : GoodIn wsX9_numberOf wsX9_least := goodIn_r _ [6, 7, 8, 9, 5, 10] (by decide +kernel) (by decide +kernel)
set_option maxRecDepth 20000 in
theorem gX9_numberOf_X9_least : GoodIn wsX9_numberOf (wsV RX9 251 RX9 yX9_least wsX9_least) := goodIn_app (goodIn_of _ (by decide +kernel)) ggX9_numberOf_X9_least
set_option maxRecDepth 20000 in
theorem ggX9_numberOf_X9_isFirst : GoodIn wsX9_numberOf wsX9_isFirst := goodIn_r _ [14, 1, 2, 3, 4, 5, 6, 7, 8, 9, 10, 15, 16, 17, 18, 19, 20, 21, 22, 23, 24, 25, 26, 27, 28, 29, 30, 31, 32, 33, 34, 35, 36, 37, 38, 39, 40, 41, 42, 43, 44, 45, 46, 47, 48, 49, 50, 51, 52] (by decide +kernel) (by decide +kernel)
set_option maxRecDepth 20000 in
theorem gX9_numberOf_X9_isFirst : GoodIn wsX9_numberOf (wsV RX9 254 RX9 yX9_isFirst wsX9_isFirst) := goodIn_app (goodIn_of _ (by decide +kernel)) ggX9_numberOf_X9_isFirst
set_option maxRecDepth 20000 in
theorem ggX9_zoom_X9_isPoint : GoodIn wsX9_zoom wsX9_isPoint := goodIn_r _ [7, 8, 9, 10, 11, 6, 12, 39, 40, 41, 42, 43, 44, 45, 46, 47, 48, 49, 50, 51, 52, 53, 54, 55, 56, 57, 58, 59, 60, 61, 62, 63, 64, 65, 66, 67, 68, 69, 70, 71, 72, 73, 74, 75, 76] (by decide +kernel) (by decide +kernel)
set_option maxRecDepth 20000 in
theorem gX9_zoom_X9_isPoint : GoodIn wsX9_zoom (wsV RX9 182 RX9 yX9_isPoint wsX9_isPoint) := goodIn_app (goodIn_of _ (by decide +kernel)) ggX9_zoom_X9_isPoint
set_option maxRecDepth 20000 in
theorem ggX9_zoom_X9_laysZoom : GoodIn wsX9_zoom wsX9_laysZoom := goodIn_r _ [16, 17, 18, 19, 6, 20, 21, 22, 23, 24, 25, 8, 26, 27, 28, 29, 30, 31, 32, 33, 2, 34, 35, 36, 37, 38, 39, 40, 41, 42, 43, 44, 45, 46, 47, 48, 49, 50, 51, 52, 53, 54, 55, 56, 57, 58, 59, 60, 61, 62, 63, 64, 65, 66, 67, 68, 69, 70, 71, 72, 73, 74, 75, 76] (by decide +kernel) (by decide +kernel)
set_option maxRecDepth 20000 in
theorem gX9_zoom_X9_laysZoom : GoodIn wsX9_zoom (wsV RX9 260 RX9 yX9_laysZoom wsX9_laysZoom) := goodIn_app (goodIn_of _ (by decide +kernel)) ggX9_zoom_X9_laysZoom
set_option maxRecDepth 20000 in
theorem ggX9_zoom_X9_has : GoodIn wsX9_zoom wsX9_has := goodIn_r _ [38] (by decide +kernel) (by decide +kernel)
set_option maxRecDepth 20000 in
theorem gX9_zoom_X9_has : GoodIn wsX9_zoom (wsV RX9 123 RX9 yX9_has wsX9_has) := goodIn_app (goodIn_of _ (by decide +kernel)) ggX9_zoom_X9_has
set_option maxRecDepth 20000 in
theorem ggX9_groups_X9_isZoom : GoodIn wsX9_groups wsX9_isZoom := goodIn_r _ [6, 7, 8, 9, 10, 5, 11] (by decide +kernel) (by decide +kernel)
set_option maxRecDepth 20000 in
theorem gX9_groups_X9_isZoom : GoodIn wsX9_groups (wsV RX9 257 RX9 yX9_isZoom wsX9_isZoom) := goodIn_app (goodIn_of _ (by decide +kernel)) ggX9_groups_X9_isZoom
set_option maxRecDepth 20000 in
theorem ggX9_groups_X9_laysZoom : GoodIn wsX9_groups wsX9_laysZoom := goodIn_r _ [15, 16, 17, 18, 5, 19, 20, 21, 22, 23, 24, 25, 26, 27, 28, 29, 30, 31, 32, 33, 34, 35, 36, 37, 38, 39, 52, 53, 54, 55, 56, 57, 58, 59, 60, 61, 62, 63, 64, 65, 66, 67, 68, 69, 70, 71, 72, 73, 74, 75, 76, 77, 78, 79, 80, 81, 82, 83, 84, 85, 86, 87, 88, 89] (by decide +kernel) (by decide +kernel)
set_option maxRecDepth 20000 in
theorem gX9_groups_X9_laysZoom : GoodIn wsX9_groups (wsV RX9 260 RX9 yX9_laysZoom wsX9_laysZoom) := goodIn_app (goodIn_of _ (by decide +kernel)) ggX9_groups_X9_laysZoom
set_option maxRecDepth 20000 in
theorem ggX9_groups_X9_partsNow : GoodIn wsX9_groups wsX9_partsNow := goodIn_r _ [43, 25, 44, 45, 46, 5, 47, 34, 48, 49, 50, 51, 36, 37, 38, 39, 52, 53, 54, 55, 56, 57, 58, 59, 60, 61, 62, 63, 64, 65, 66, 67, 68, 69, 70, 71, 72, 73, 74, 75, 76, 77, 78, 79, 80, 81, 82, 83, 84, 85, 86, 87, 88, 89] (by decide +kernel) (by decide +kernel)
set_option maxRecDepth 20000 in
theorem gX9_groups_X9_partsNow : GoodIn wsX9_groups (wsV RX9 263 RX9 yX9_partsNow wsX9_partsNow) := goodIn_app (goodIn_of _ (by decide +kernel)) ggX9_groups_X9_partsNow
set_option maxRecDepth 20000 in
theorem ggX9_groupOf_X9_isZoom : GoodIn wsX9_groupOf wsX9_isZoom := goodIn_r _ [6, 7, 8, 9, 10, 5, 11] (by decide +kernel) (by decide +kernel)
set_option maxRecDepth 20000 in
theorem gX9_groupOf_X9_isZoom : GoodIn wsX9_groupOf (wsV RX9 257 RX9 yX9_isZoom wsX9_isZoom) := goodIn_app (goodIn_of _ (by decide +kernel)) ggX9_groupOf_X9_isZoom
set_option maxRecDepth 20000 in
theorem ggX9_groupOf_X9_isPoint : GoodIn wsX9_groupOf wsX9_isPoint := goodIn_r _ [15, 16, 8, 9, 10, 5, 11, 56, 57, 58, 59, 60, 61, 62, 63, 64, 65, 66, 67, 68, 69, 70, 71, 72, 73, 74, 75, 76, 77, 78, 79, 80, 81, 82, 83, 84, 85, 86, 87, 88, 89, 90, 91, 92, 93] (by decide +kernel) (by decide +kernel)
set_option maxRecDepth 20000 in
theorem gX9_groupOf_X9_isPoint : GoodIn wsX9_groupOf (wsV RX9 182 RX9 yX9_isPoint wsX9_isPoint) := goodIn_app (goodIn_of _ (by decide +kernel)) ggX9_groupOf_X9_isPoint
set_option maxRecDepth 20000 in
theorem ggX9_groupOf_X9_laysZoom : GoodIn wsX9_groupOf wsX9_laysZoom := goodIn_r _ [20, 21, 22, 23, 5, 24, 25, 26, 27, 28, 29, 16, 30, 31, 32, 33, 34, 35, 36, 37, 38, 39, 40, 41, 42, 43, 56, 57, 58, 59, 60, 61, 62, 63, 64, 65, 66, 67, 68, 69, 70, 71, 72, 73, 74, 75, 76, 77, 78, 79, 80, 81, 82, 83, 84, 85, 86, 87, 88, 89, 90, 91, 92, 93] (by decide +kernel) (by decide +kernel)
set_option maxRecDepth 20000 in
theorem gX9_groupOf_X9_laysZoom : GoodIn wsX9_groupOf (wsV RX9 260 RX9 yX9_laysZoom wsX9_laysZoom) := goodIn_app (goodIn_of _ (by decide +kernel)) ggX9_groupOf_X9_laysZoom
set_option maxRecDepth 20000 in
theorem ggX9_groupOf_X9_numberOf : GoodIn wsX9_groupOf wsX9_numberOf := goodIn_r _ [47, 38, 48, 49, 50, 5, 51, 40, 41, 42, 43, 52, 53, 54, 55, 56, 57, 58, 59, 60, 61, 62, 63, 64, 65, 66, 67, 68, 69, 70, 71, 72, 73, 74, 75, 76, 77, 78, 79, 80, 81, 82, 83, 84, 85, 86, 87, 88, 89, 90, 91, 92, 93] (by decide +kernel) (by decide +kernel)
set_option maxRecDepth 20000 in
theorem gX9_groupOf_X9_numberOf : GoodIn wsX9_groupOf (wsV RX9 266 RX9 yX9_numberOf wsX9_numberOf) := goodIn_app (goodIn_of _ (by decide +kernel)) ggX9_groupOf_X9_numberOf
set_option maxRecDepth 20000 in
theorem ggX9_centre_X9_has : GoodIn wsX9_centre wsX9_has := goodIn_r _ [9] (by decide +kernel) (by decide +kernel)
set_option maxRecDepth 20000 in
theorem gX9_centre_X9_has : GoodIn wsX9_centre (wsV RX9 123 RX9 yX9_has wsX9_has) := goodIn_app (goodIn_of _ (by decide +kernel)) ggX9_centre_X9_has
set_option maxRecDepth 20000 in
theorem ggX9_centre_X9_weightOf : GoodIn wsX9_centre wsX9_weightOf := goodIn_r _ [13, 1, 2, 5, 6, 7, 8, 9, 14, 15, 16, 17, 18, 19, 20, 21, 22, 23, 24, 25, 26, 27, 28, 29, 30, 31, 32, 33, 34, 35, 36, 37, 38, 39, 40, 41, 42, 43, 44, 45, 46, 47, 48, 49, 50, 51] (by decide +kernel) (by decide +kernel)
set_option maxRecDepth 20000 in
theorem gX9_centre_X9_weightOf : GoodIn wsX9_centre (wsV RX9 215 RX9 yX9_weightOf wsX9_weightOf) := goodIn_app (goodIn_of _ (by decide +kernel)) ggX9_centre_X9_weightOf
set_option maxRecDepth 20000 in
theorem ggX9_bound_X9_has : GoodIn wsX9_bound wsX9_has := goodIn_r _ [8] (by decide +kernel) (by decide +kernel)
set_option maxRecDepth 20000 in
theorem gX9_bound_X9_has : GoodIn wsX9_bound (wsV RX9 123 RX9 yX9_has wsX9_has) := goodIn_app (goodIn_of _ (by decide +kernel)) ggX9_bound_X9_has
set_option maxRecDepth 20000 in
theorem ggX9_topOf_X9_has : GoodIn wsX9_topOf wsX9_has := goodIn_r _ [7] (by decide +kernel) (by decide +kernel)
set_option maxRecDepth 20000 in
theorem gX9_topOf_X9_has : GoodIn wsX9_topOf (wsV RX9 123 RX9 yX9_has wsX9_has) := goodIn_app (goodIn_of _ (by decide +kernel)) ggX9_topOf_X9_has
set_option maxRecDepth 20000 in
theorem ggX9_makerOf_X9_joins : GoodIn wsX9_makerOf wsX9_joins := goodIn_r _ [6, 7, 8, 9, 10, 11, 12, 13, 14, 15, 16, 17, 18, 19, 20, 21, 22, 23, 24, 25, 26, 27, 28, 29, 30, 31, 32, 33, 34, 35, 36, 37, 38, 39, 40, 41, 42, 43, 44, 45] (by decide +kernel) (by decide +kernel)
set_option maxRecDepth 20000 in
theorem gX9_makerOf_X9_joins : GoodIn wsX9_makerOf (wsV RX9 119 RX9 yX9_joins wsX9_joins) := goodIn_app (goodIn_of _ (by decide +kernel)) ggX9_makerOf_X9_joins
set_option maxRecDepth 20000 in
theorem ggX9_widest_X9_has : GoodIn wsX9_widest wsX9_has := goodIn_r _ [10] (by decide +kernel) (by decide +kernel)
set_option maxRecDepth 20000 in
theorem gX9_widest_X9_has : GoodIn wsX9_widest (wsV RX9 123 RX9 yX9_has wsX9_has) := goodIn_app (goodIn_of _ (by decide +kernel)) ggX9_widest_X9_has
set_option maxRecDepth 20000 in
theorem ggX9_widest_X9_apart : GoodIn wsX9_widest wsX9_apart := goodIn_r _ [14, 15, 16, 17, 18, 19, 20, 21, 22, 23, 24, 25, 26, 27, 28, 29, 30, 31, 32, 33, 34, 35, 36, 37, 38, 39, 40, 41, 42, 43, 44, 45, 46, 47, 48, 49, 50, 51, 52, 53, 54] (by decide +kernel) (by decide +kernel)
set_option maxRecDepth 20000 in
theorem gX9_widest_X9_apart : GoodIn wsX9_widest (wsV RX9 107 RX9 yX9_apart wsX9_apart) := goodIn_app (goodIn_of _ (by decide +kernel)) ggX9_widest_X9_apart
set_option maxRecDepth 20000 in
theorem ggX9_splitsInto_X9_laysZoom : GoodIn wsX9_splitsInto wsX9_laysZoom := goodIn_r _ [6, 7, 8, 9, 5, 10, 11, 12, 13, 14, 15, 1, 16, 17, 18, 19, 20, 21, 22, 23, 24, 25, 26, 27, 28, 29, 38, 39, 40, 41, 42, 43, 44, 45, 46, 47, 48, 49, 50, 51, 52, 53, 54, 55, 56, 57, 58, 59, 60, 61, 62, 63, 64, 65, 66, 67, 68, 69, 70, 71, 72, 73, 74, 75] (by decide +kernel) (by decide +kernel)
set_option maxRecDepth 20000 in
theorem gX9_splitsInto_X9_laysZoom : GoodIn wsX9_splitsInto (wsV RX9 260 RX9 yX9_laysZoom wsX9_laysZoom) := goodIn_app (goodIn_of _ (by decide +kernel)) ggX9_splitsInto_X9_laysZoom
set_option maxRecDepth 20000 in
theorem ggX9_splitsInto_X9_has : GoodIn wsX9_splitsInto wsX9_has := goodIn_r _ [29] (by decide +kernel) (by decide +kernel)
set_option maxRecDepth 20000 in
theorem gX9_splitsInto_X9_has : GoodIn wsX9_splitsInto (wsV RX9 123 RX9 yX9_has wsX9_has) := goodIn_app (goodIn_of _ (by decide +kernel)) ggX9_splitsInto_X9_has
set_option maxRecDepth 20000 in
theorem ggX9_splitsInto_X9_isFirst : GoodIn wsX9_splitsInto wsX9_isFirst := goodIn_r _ [33, 24, 34, 35, 36, 5, 37, 26, 27, 28, 29, 38, 39, 40, 41, 42, 43, 44, 45, 46, 47, 48, 49, 50, 51, 52, 53, 54, 55, 56, 57, 58, 59, 60, 61, 62, 63, 64, 65, 66, 67, 68, 69, 70, 71, 72, 73, 74, 75] (by decide +kernel) (by decide +kernel)
set_option maxRecDepth 20000 in
theorem gX9_splitsInto_X9_isFirst : GoodIn wsX9_splitsInto (wsV RX9 254 RX9 yX9_isFirst wsX9_isFirst) := goodIn_app (goodIn_of _ (by decide +kernel)) ggX9_splitsInto_X9_isFirst
set_option maxRecDepth 20000 in
theorem ggX9_group_X9_groupSet : GoodIn wsX9_group wsX9_groupSet := goodIn_r _ [6, 7, 8, 9, 10, 11, 5, 12, 13, 14, 15, 16, 17, 18, 19, 20, 21, 22, 23, 24, 25, 26, 27, 28, 29, 30, 31, 32, 33, 34, 35, 36, 37, 38, 39, 40, 41, 42, 43, 44, 45, 46, 47, 48, 49, 50, 51, 95, 96, 97, 98, 99, 100, 101, 102, 103, 104, 105, 106, 107, 108, 109, 110, 111, 112, 113, 114, 115, 116, 117, 118, 119, 120, 121, 122, 123, 124, 125, 126, 127, 128, 129, 130, 131, 132] (by decide +kernel) (by decide +kernel)
set_option maxRecDepth 20000 in
theorem gX9_group_X9_groupSet : GoodIn wsX9_group (wsV RX9 269 RX9 yX9_groupSet wsX9_groupSet) := goodIn_app (goodIn_of _ (by decide +kernel)) ggX9_group_X9_groupSet
set_option maxRecDepth 20000 in
theorem ggX9_group_X9_least : GoodIn wsX9_group wsX9_least := goodIn_r _ [51, 40, 41, 42, 5, 43] (by decide +kernel) (by decide +kernel)
set_option maxRecDepth 20000 in
theorem gX9_group_X9_least : GoodIn wsX9_group (wsV RX9 251 RX9 yX9_least wsX9_least) := goodIn_app (goodIn_of _ (by decide +kernel)) ggX9_group_X9_least
set_option maxRecDepth 20000 in
theorem ggX9_group_X9_bits : GoodIn wsX9_group wsX9_bits := goodIn_r _ [55, 40, 41, 42, 5, 43] (by decide +kernel) (by decide +kernel)
set_option maxRecDepth 20000 in
theorem gX9_group_X9_bits : GoodIn wsX9_group (wsV RX9 224 RX9 yX9_bits wsX9_bits) := goodIn_app (goodIn_of _ (by decide +kernel)) ggX9_group_X9_bits
set_option maxRecDepth 20000 in
theorem ggX9_group_X9_weightOf : GoodIn wsX9_group wsX9_weightOf := goodIn_r _ [59, 7, 60, 40, 41, 42, 5, 43, 95, 96, 97, 98, 99, 100, 101, 102, 103, 104, 105, 106, 107, 108, 109, 110, 111, 112, 113, 114, 115, 116, 117, 118, 119, 120, 121, 122, 123, 124, 125, 126, 127, 128, 129, 130, 131, 132] (by decide +kernel) (by decide +kernel)
set_option maxRecDepth 20000 in
theorem gX9_group_X9_weightOf : GoodIn wsX9_group (wsV RX9 215 RX9 yX9_weightOf wsX9_weightOf) := goodIn_app (goodIn_of _ (by decide +kernel)) ggX9_group_X9_weightOf
set_option maxRecDepth 20000 in
theorem ggX9_group_X9_bound : GoodIn wsX9_group wsX9_bound := goodIn_r _ [64, 7, 65, 66, 40, 41, 42, 5, 43, 95, 96, 97, 98, 99, 100, 101, 102, 103, 104, 105, 106, 107, 108, 109, 110, 111, 112, 113, 114, 115, 116, 117, 118, 119, 120, 121, 122, 123, 124, 125, 126, 127, 128, 129, 130, 131, 132] (by decide +kernel) (by decide +kernel)
set_option maxRecDepth 20000 in
theorem gX9_group_X9_bound : GoodIn wsX9_group (wsV RX9 272 RX9 yX9_bound wsX9_bound) := goodIn_app (goodIn_of _ (by decide +kernel)) ggX9_group_X9_bound
set_option maxRecDepth 20000 in
theorem ggX9_group_X9_centre : GoodIn wsX9_group wsX9_centre := goodIn_r _ [70, 7, 60, 65, 66, 40, 41, 42, 5, 43, 56, 57, 58, 59, 95, 96, 97, 98, 99, 100, 101, 102, 103, 104, 105, 106, 107, 108, 109, 110, 111, 112, 113, 114, 115, 116, 117, 118, 119, 120, 121, 122, 123, 124, 125, 126, 127, 128, 129, 130, 131, 132] (by decide +kernel) (by decide +kernel)
set_option maxRecDepth 20000 in
theorem gX9_group_X9_centre : GoodIn wsX9_group (wsV RX9 276 RX9 yX9_centre wsX9_centre) := goodIn_app (goodIn_of _ (by decide +kernel)) ggX9_group_X9_centre
set_option maxRecDepth 20000 in
theorem ggX9_group_X9_topOf : GoodIn wsX9_group wsX9_topOf := goodIn_r _ [74, 7, 60, 40, 41, 42, 5, 43, 95, 96, 97, 98, 99, 100, 101, 102, 103, 104, 105, 106, 107, 108, 109, 110, 111, 112, 113, 114, 115, 116, 117, 118, 119, 120, 121, 122, 123, 124, 125, 126, 127, 128, 129, 130, 131, 132] (by decide +kernel) (by decide +kernel)
set_option maxRecDepth 20000 in
theorem gX9_group_X9_topOf : GoodIn wsX9_group (wsV RX9 280 RX9 yX9_topOf wsX9_topOf) := goodIn_app (goodIn_of _ (by decide +kernel)) ggX9_group_X9_topOf
set_option maxRecDepth 20000 in
theorem ggX9_group_X9_makerOf : GoodIn wsX9_group wsX9_makerOf := goodIn_r _ [78, 39, 27, 28, 29, 5, 30, 7, 95, 96, 97, 98, 99, 100, 101, 102, 103, 104, 105, 106, 107, 108, 109, 110, 111, 112, 113, 114, 115, 116, 117, 118, 119, 120, 121, 122, 123, 124, 125, 126, 127, 128, 129, 130, 131, 132] (by decide +kernel) (by decide +kernel)
set_option maxRecDepth 20000 in
theorem gX9_group_X9_makerOf : GoodIn wsX9_group (wsV RX9 283 RX9 yX9_makerOf wsX9_makerOf) := goodIn_app (goodIn_of _ (by decide +kernel)) ggX9_group_X9_makerOf
set_option maxRecDepth 20000 in
theorem ggX9_group_X9_splitsInto : GoodIn wsX9_group wsX9_splitsInto := goodIn_r _ [82, 7, 18, 19, 20, 5, 21, 22, 23, 24, 25, 26, 27, 28, 29, 30, 31, 32, 33, 34, 35, 36, 37, 38, 8, 39, 40, 41, 42, 43, 44, 45, 46, 47, 48, 49, 50, 51, 95, 96, 97, 98, 99, 100, 101, 102, 103, 104, 105, 106, 107, 108, 109, 110, 111, 112, 113, 114, 115, 116, 117, 118, 119, 120, 121, 122, 123, 124, 125, 126, 127, 128, 129, 130, 131, 132] (by decide +kernel) (by decide +kernel)
set_option maxRecDepth 20000 in
theorem gX9_group_X9_splitsInto : GoodIn wsX9_group (wsV RX9 286 RX9 yX9_splitsInto wsX9_splitsInto) := goodIn_app (goodIn_of _ (by decide +kernel)) ggX9_group_X9_splitsInto
set_option maxRecDepth 20000 in
theorem ggX9_group_X9_widest : GoodIn wsX9_group wsX9_widest := goodIn_r _ [86, 7, 87, 88, 89, 90, 40, 41, 42, 5, 43, 91, 92, 93, 94, 65, 66, 95, 96, 97, 98, 99, 100, 101, 102, 103, 104, 105, 106, 107, 108, 109, 110, 111, 112, 113, 114, 115, 116, 117, 118, 119, 120, 121, 122, 123, 124, 125, 126, 127, 128, 129, 130, 131, 132] (by decide +kernel) (by decide +kernel)
set_option maxRecDepth 20000 in
theorem gX9_group_X9_widest : GoodIn wsX9_group (wsV RX9 289 RX9 yX9_widest wsX9_widest) := goodIn_app (goodIn_of _ (by decide +kernel)) ggX9_group_X9_widest
set_option maxRecDepth 20000 in
theorem ggX9_member_X9_groupSet : GoodIn wsX9_member wsX9_groupSet := goodIn_r _ [7, 2, 8, 9, 10, 11, 6, 12, 13, 14, 15, 16, 17, 18, 19, 20, 21, 22, 23, 24, 25, 26, 27, 28, 29, 30, 31, 32, 33, 34, 35, 36, 37, 38, 39, 40, 41, 42, 43, 44, 45, 46, 47, 48, 49, 50, 51, 52, 53, 54, 55, 56, 57, 58, 59, 60, 61, 62, 63, 64, 65, 66, 67, 68, 69, 70, 71, 72, 73, 74, 75, 76, 77, 78, 79, 80, 81, 82, 83, 84, 85, 86, 87, 88, 89] (by decide +kernel) (by decide +kernel)
set_option maxRecDepth 20000 in
theorem gX9_member_X9_groupSet : GoodIn wsX9_member (wsV RX9 269 RX9 yX9_groupSet wsX9_groupSet) := goodIn_app (goodIn_of _ (by decide +kernel)) ggX9_member_X9_groupSet
set_option maxRecDepth 20000 in
theorem ggX9_member_X9_has : GoodIn wsX9_member wsX9_has := goodIn_r _ [43] (by decide +kernel) (by decide +kernel)
set_option maxRecDepth 20000 in
theorem gX9_member_X9_has : GoodIn wsX9_member (wsV RX9 123 RX9 yX9_has wsX9_has) := goodIn_app (goodIn_of _ (by decide +kernel)) ggX9_member_X9_has
set_option maxRecDepth 20000 in
theorem ggX9_splits_X9_groupSet : GoodIn wsX9_splits wsX9_groupSet := goodIn_r _ [7, 2, 8, 9, 10, 11, 6, 12, 13, 14, 15, 16, 17, 18, 19, 20, 21, 22, 23, 24, 25, 26, 27, 28, 29, 30, 31, 32, 33, 34, 35, 36, 37, 38, 39, 40, 41, 42, 43, 44, 45, 46, 47, 48, 49, 50, 51, 56, 57, 58, 59, 60, 61, 62, 63, 64, 65, 66, 67, 68, 69, 70, 71, 72, 73, 74, 75, 76, 77, 78, 79, 80, 81, 82, 83, 84, 85, 86, 87, 88, 89, 90, 91, 92, 93] (by decide +kernel) (by decide +kernel)
set_option maxRecDepth 20000 in
theorem gX9_splits_X9_groupSet : GoodIn wsX9_splits (wsV RX9 269 RX9 yX9_groupSet wsX9_groupSet) := goodIn_app (goodIn_of _ (by decide +kernel)) ggX9_splits_X9_groupSet
set_option maxRecDepth 20000 in
theorem ggX9_splits_X9_laysZoom : GoodIn wsX9_splits wsX9_laysZoom := goodIn_r _ [21, 22, 23, 24, 6, 25, 26, 27, 28, 29, 30, 2, 31, 32, 33, 34, 35, 36, 37, 38, 8, 39, 40, 41, 42, 43, 56, 57, 58, 59, 60, 61, 62, 63, 64, 65, 66, 67, 68, 69, 70, 71, 72, 73, 74, 75, 76, 77, 78, 79, 80, 81, 82, 83, 84, 85, 86, 87, 88, 89, 90, 91, 92, 93] (by decide +kernel) (by decide +kernel)
set_option maxRecDepth 20000 in
theorem gX9_splits_X9_laysZoom : GoodIn wsX9_splits (wsV RX9 260 RX9 yX9_laysZoom wsX9_laysZoom) := goodIn_app (goodIn_of _ (by decide +kernel)) ggX9_splits_X9_laysZoom
set_option maxRecDepth 20000 in
theorem ggX9_splits_X9_has : GoodIn wsX9_splits wsX9_has := goodIn_r _ [43] (by decide +kernel) (by decide +kernel)
set_option maxRecDepth 20000 in
theorem gX9_splits_X9_has : GoodIn wsX9_splits (wsV RX9 123 RX9 yX9_has wsX9_has) := goodIn_app (goodIn_of _ (by decide +kernel)) ggX9_splits_X9_has
set_option maxRecDepth 20000 in
theorem ggX9_splits_X9_isFirst : GoodIn wsX9_splits wsX9_isFirst := goodIn_r _ [47, 8, 48, 49, 50, 6, 51, 40, 41, 42, 43, 56, 57, 58, 59, 60, 61, 62, 63, 64, 65, 66, 67, 68, 69, 70, 71, 72, 73, 74, 75, 76, 77, 78, 79, 80, 81, 82, 83, 84, 85, 86, 87, 88, 89, 90, 91, 92, 93] (by decide +kernel) (by decide +kernel)
set_option maxRecDepth 20000 in
theorem gX9_splits_X9_isFirst : GoodIn wsX9_splits (wsV RX9 254 RX9 yX9_isFirst wsX9_isFirst) := goodIn_app (goodIn_of _ (by decide +kernel)) ggX9_splits_X9_isFirst
set_option maxRecDepth 20000 in
theorem ggX9_splits_X9_numberOf : GoodIn wsX9_splits wsX9_numberOf := goodIn_r _ [55, 8, 48, 49, 50, 6, 51, 40, 41, 42, 43, 44, 45, 46, 47, 56, 57, 58, 59, 60, 61, 62, 63, 64, 65, 66, 67, 68, 69, 70, 71, 72, 73, 74, 75, 76, 77, 78, 79, 80, 81, 82, 83, 84, 85, 86, 87, 88, 89, 90, 91, 92, 93] (by decide +kernel) (by decide +kernel)
set_option maxRecDepth 20000 in
theorem gX9_splits_X9_numberOf : GoodIn wsX9_splits (wsV RX9 266 RX9 yX9_numberOf wsX9_numberOf) := goodIn_app (goodIn_of _ (by decide +kernel)) ggX9_splits_X9_numberOf
set_option maxRecDepth 20000 in
theorem ggX9_isCentred_X9_centre : GoodIn wsX9_isCentred wsX9_centre := goodIn_r _ [5, 6, 7, 8, 9, 10, 11, 12, 4, 13, 14, 15, 16, 17, 22, 23, 24, 25, 26, 27, 28, 29, 30, 31, 32, 33, 34, 35, 36, 37, 38, 39, 40, 41, 42, 43, 44, 45, 46, 47, 48, 49, 50, 51, 52, 53, 54, 55, 56, 57, 58, 59] (by decide +kernel) (by decide +kernel)
set_option maxRecDepth 20000 in
theorem gX9_isCentred_X9_centre : GoodIn wsX9_isCentred (wsV RX9 276 RX9 yX9_centre wsX9_centre) := goodIn_app (goodIn_of _ (by decide +kernel)) ggX9_isCentred_X9_centre
set_option maxRecDepth 20000 in
theorem ggX9_isCentred_X9_isWithin : GoodIn wsX9_isCentred wsX9_isWithin := goodIn_r _ [21] (by decide +kernel) (by decide +kernel)
set_option maxRecDepth 20000 in
theorem gX9_isCentred_X9_isWithin : GoodIn wsX9_isCentred (wsV RX9 292 RX9 yX9_isWithin wsX9_isWithin) := goodIn_app (goodIn_of _ (by decide +kernel)) ggX9_isCentred_X9_isWithin
set_option maxRecDepth 20000 in
theorem ggX9_pointsIn_X9_isWithin : GoodIn wsX9_pointsIn wsX9_isWithin := goodIn_r _ [8] (by decide +kernel) (by decide +kernel)
set_option maxRecDepth 20000 in
theorem gX9_pointsIn_X9_isWithin : GoodIn wsX9_pointsIn (wsV RX9 292 RX9 yX9_isWithin wsX9_isWithin) := goodIn_app (goodIn_of _ (by decide +kernel)) ggX9_pointsIn_X9_isWithin
set_option maxRecDepth 20000 in
theorem ggX9_centredIn_X9_isFirst : GoodIn wsX9_centredIn wsX9_isFirst := goodIn_r _ [7, 2, 8, 9, 10, 6, 11, 12, 13, 14, 15, 35, 36, 37, 38, 39, 40, 41, 42, 43, 44, 45, 46, 47, 48, 49, 50, 51, 52, 53, 54, 55, 56, 57, 58, 59, 60, 61, 62, 63, 64, 65, 66, 67, 68, 69, 70, 71, 72] (by decide +kernel) (by decide +kernel)
set_option maxRecDepth 20000 in
theorem gX9_centredIn_X9_isFirst : GoodIn wsX9_centredIn (wsV RX9 254 RX9 yX9_isFirst wsX9_isFirst) := goodIn_app (goodIn_of _ (by decide +kernel)) ggX9_centredIn_X9_isFirst
set_option maxRecDepth 20000 in
theorem ggX9_centredIn_X9_isCentred : GoodIn wsX9_centredIn wsX9_isCentred := goodIn_r _ [19, 20, 21, 22, 6, 23, 1, 24, 25, 26, 12, 13, 14, 15, 27, 28, 29, 30, 31, 32, 33, 34, 35, 36, 37, 38, 39, 40, 41, 42, 43, 44, 45, 46, 47, 48, 49, 50, 51, 52, 53, 54, 55, 56, 57, 58, 59, 60, 61, 62, 63, 64, 65, 66, 67, 68, 69, 70, 71, 72] (by decide +kernel) (by decide +kernel)
set_option maxRecDepth 20000 in
theorem gX9_centredIn_X9_isCentred : GoodIn wsX9_centredIn (wsV RX9 296 RX9 yX9_isCentred wsX9_isCentred) := goodIn_app (goodIn_of _ (by decide +kernel)) ggX9_centredIn_X9_isCentred
set_option maxRecDepth 20000 in
theorem ggX9_centredIn_X9_weightOf : GoodIn wsX9_centredIn wsX9_weightOf := goodIn_r _ [30, 1, 24, 12, 13, 14, 6, 15, 35, 36, 37, 38, 39, 40, 41, 42, 43, 44, 45, 46, 47, 48, 49, 50, 51, 52, 53, 54, 55, 56, 57, 58, 59, 60, 61, 62, 63, 64, 65, 66, 67, 68, 69, 70, 71, 72] (by decide +kernel) (by decide +kernel)
set_option maxRecDepth 20000 in
theorem gX9_centredIn_X9_weightOf : GoodIn wsX9_centredIn (wsV RX9 215 RX9 yX9_weightOf wsX9_weightOf) := goodIn_app (goodIn_of _ (by decide +kernel)) ggX9_centredIn_X9_weightOf
set_option maxRecDepth 20000 in
theorem ggX9_window_X9_isZoom : GoodIn wsX9_window wsX9_isZoom := goodIn_r _ [7, 8, 9, 10, 11, 6, 12] (by decide +kernel) (by decide +kernel)
set_option maxRecDepth 20000 in
theorem gX9_window_X9_isZoom : GoodIn wsX9_window (wsV RX9 257 RX9 yX9_isZoom wsX9_isZoom) := goodIn_app (goodIn_of _ (by decide +kernel)) ggX9_window_X9_isZoom
set_option maxRecDepth 20000 in
theorem ggX9_window_X9_isIn : GoodIn wsX9_window wsX9_isIn := goodIn_r _ [12] (by decide +kernel) (by decide +kernel)
set_option maxRecDepth 20000 in
theorem gX9_window_X9_isIn : GoodIn wsX9_window (wsV RX9 101 RX9 yX9_isIn wsX9_isIn) := goodIn_app (goodIn_of _ (by decide +kernel)) ggX9_window_X9_isIn
set_option maxRecDepth 20000 in
theorem ggX9_window_X9_laysZoom : GoodIn wsX9_window wsX9_laysZoom := goodIn_r _ [16, 17, 18, 19, 6, 20, 21, 22, 23, 24, 25, 26, 27, 28, 29, 30, 31, 32, 33, 34, 35, 36, 37, 38, 39, 40, 80, 81, 82, 83, 84, 85, 86, 87, 88, 89, 90, 91, 92, 93, 94, 95, 96, 97, 98, 99, 100, 101, 102, 103, 104, 105, 106, 107, 108, 109, 110, 111, 112, 113, 114, 115, 116, 117] (by decide +kernel) (by decide +kernel)
set_option maxRecDepth 20000 in
theorem gX9_window_X9_laysZoom : GoodIn wsX9_window (wsV RX9 260 RX9 yX9_laysZoom wsX9_laysZoom) := goodIn_app (goodIn_of _ (by decide +kernel)) ggX9_window_X9_laysZoom
set_option maxRecDepth 20000 in
theorem ggX9_window_X9_centredIn : GoodIn wsX9_window wsX9_centredIn := goodIn_r _ [44, 26, 35, 45, 46, 47, 6, 48, 49, 50, 51, 52, 37, 38, 39, 40, 53, 54, 55, 56, 57, 58, 59, 60, 61, 62, 63, 64, 65, 66, 67, 68, 69, 70, 71, 80, 81, 82, 83, 84, 85, 86, 87, 88, 89, 90, 91, 92, 93, 94, 95, 96, 97, 98, 99, 100, 101, 102, 103, 104, 105, 106, 107, 108, 109, 110, 111, 112, 113, 114, 115, 116, 117] (by decide +kernel) (by decide +kernel)
set_option maxRecDepth 20000 in
theorem gX9_window_X9_centredIn : GoodIn wsX9_window (wsV RX9 302 RX9 yX9_centredIn wsX9_centredIn) := goodIn_app (goodIn_of _ (by decide +kernel)) ggX9_window_X9_centredIn
set_option maxRecDepth 20000 in
theorem ggX9_window_X9_pointsIn : GoodIn wsX9_window wsX9_pointsIn := goodIn_r _ [75, 26, 62, 63, 68, 69, 70, 6, 71, 80, 81, 82, 83, 84, 85, 86, 87, 88, 89, 90, 91, 92, 93, 94, 95, 96, 97, 98, 99, 100, 101, 102, 103, 104, 105, 106, 107, 108, 109, 110, 111, 112, 113, 114, 115, 116, 117] (by decide +kernel) (by decide +kernel)
set_option maxRecDepth 20000 in
theorem gX9_window_X9_pointsIn : GoodIn wsX9_window (wsV RX9 306 RX9 yX9_pointsIn wsX9_pointsIn) := goodIn_app (goodIn_of _ (by decide +kernel)) ggX9_window_X9_pointsIn
set_option maxRecDepth 20000 in
theorem ggX9_window_X9_bits : GoodIn wsX9_window wsX9_bits := goodIn_r _ [79, 37, 38, 39, 6, 40] (by decide +kernel) (by decide +kernel)
set_option maxRecDepth 20000 in
theorem gX9_window_X9_bits : GoodIn wsX9_window (wsV RX9 224 RX9 yX9_bits wsX9_bits) := goodIn_app (goodIn_of _ (by decide +kernel)) ggX9_window_X9_bits
set_option maxRecDepth 20000 in
theorem ggX9_window_X9_weightOf : GoodIn wsX9_window wsX9_weightOf := goodIn_r _ [67, 26, 61, 37, 38, 39, 6, 40, 80, 81, 82, 83, 84, 85, 86, 87, 88, 89, 90, 91, 92, 93, 94, 95, 96, 97, 98, 99, 100, 101, 102, 103, 104, 105, 106, 107, 108, 109, 110, 111, 112, 113, 114, 115, 116, 117] (by decide +kernel) (by decide +kernel)
set_option maxRecDepth 20000 in
theorem gX9_window_X9_weightOf : GoodIn wsX9_window (wsV RX9 215 RX9 yX9_weightOf wsX9_weightOf) := goodIn_app (goodIn_of _ (by decide +kernel)) ggX9_window_X9_weightOf
set_option maxRecDepth 20000 in
theorem ggX9_top_X9_isZoom : GoodIn wsX9_top wsX9_isZoom := goodIn_r _ [8, 9, 10, 11, 12, 7, 13] (by decide +kernel) (by decide +kernel)
set_option maxRecDepth 20000 in
theorem gX9_top_X9_isZoom : GoodIn wsX9_top (wsV RX9 257 RX9 yX9_isZoom wsX9_isZoom) := goodIn_app (goodIn_of _ (by decide +kernel)) ggX9_top_X9_isZoom
set_option maxRecDepth 20000 in
theorem ggX9_top_X9_laysZoom : GoodIn wsX9_top wsX9_laysZoom := goodIn_r _ [17, 18, 19, 20, 7, 21, 22, 23, 24, 25, 26, 2, 27, 28, 29, 30, 31, 32, 33, 34, 3, 35, 36, 37, 38, 39, 71, 72, 73, 74, 75, 76, 77, 78, 79, 80, 81, 82, 83, 84, 85, 86, 87, 88, 89, 90, 91, 92, 93, 94, 95, 96, 97, 98, 99, 100, 101, 102, 103, 104, 105, 106, 107, 108] (by decide +kernel) (by decide +kernel)
set_option maxRecDepth 20000 in
theorem gX9_top_X9_laysZoom : GoodIn wsX9_top (wsV RX9 260 RX9 yX9_laysZoom wsX9_laysZoom) := goodIn_app (goodIn_of _ (by decide +kernel)) ggX9_top_X9_laysZoom
set_option maxRecDepth 20000 in
theorem ggX9_top_X9_isFirst : GoodIn wsX9_top wsX9_isFirst := goodIn_r _ [43, 3, 44, 45, 46, 7, 47, 36, 37, 38, 39, 71, 72, 73, 74, 75, 76, 77, 78, 79, 80, 81, 82, 83, 84, 85, 86, 87, 88, 89, 90, 91, 92, 93, 94, 95, 96, 97, 98, 99, 100, 101, 102, 103, 104, 105, 106, 107, 108] (by decide +kernel) (by decide +kernel)
set_option maxRecDepth 20000 in
theorem gX9_top_X9_isFirst : GoodIn wsX9_top (wsV RX9 254 RX9 yX9_isFirst wsX9_isFirst) := goodIn_app (goodIn_of _ (by decide +kernel)) ggX9_top_X9_isFirst
set_option maxRecDepth 20000 in
theorem ggX9_top_X9_isCentred : GoodIn wsX9_top wsX9_isCentred := goodIn_r _ [51, 52, 53, 54, 7, 55, 2, 56, 57, 58, 36, 37, 38, 39, 59, 60, 61, 62, 63, 64, 65, 66, 71, 72, 73, 74, 75, 76, 77, 78, 79, 80, 81, 82, 83, 84, 85, 86, 87, 88, 89, 90, 91, 92, 93, 94, 95, 96, 97, 98, 99, 100, 101, 102, 103, 104, 105, 106, 107, 108] (by decide +kernel) (by decide +kernel)
set_option maxRecDepth 20000 in
theorem gX9_top_X9_isCentred : GoodIn wsX9_top (wsV RX9 296 RX9 yX9_isCentred wsX9_isCentred) := goodIn_app (goodIn_of _ (by decide +kernel)) ggX9_top_X9_isCentred
set_option maxRecDepth 20000 in
theorem ggX9_top_X9_weightOf : GoodIn wsX9_top wsX9_weightOf := goodIn_r _ [62, 2, 56, 36, 37, 38, 7, 39, 71, 72, 73, 74, 75, 76, 77, 78, 79, 80, 81, 82, 83, 84, 85, 86, 87, 88, 89, 90, 91, 92, 93, 94, 95, 96, 97, 98, 99, 100, 101, 102, 103, 104, 105, 106, 107, 108] (by decide +kernel) (by decide +kernel)
set_option maxRecDepth 20000 in
theorem gX9_top_X9_weightOf : GoodIn wsX9_top (wsV RX9 215 RX9 yX9_weightOf wsX9_weightOf) := goodIn_app (goodIn_of _ (by decide +kernel)) ggX9_top_X9_weightOf
set_option maxRecDepth 20000 in
theorem ggX9_top_X9_numberOf : GoodIn wsX9_top wsX9_numberOf := goodIn_r _ [70, 3, 44, 45, 46, 7, 47, 36, 37, 38, 39, 40, 41, 42, 43, 71, 72, 73, 74, 75, 76, 77, 78, 79, 80, 81, 82, 83, 84, 85, 86, 87, 88, 89, 90, 91, 92, 93, 94, 95, 96, 97, 98, 99, 100, 101, 102, 103, 104, 105, 106, 107, 108] (by decide +kernel) (by decide +kernel)
set_option maxRecDepth 20000 in
theorem gX9_top_X9_numberOf : GoodIn wsX9_top (wsV RX9 266 RX9 yX9_numberOf wsX9_numberOf) := goodIn_app (goodIn_of _ (by decide +kernel)) ggX9_top_X9_numberOf
set_option maxRecDepth 20000 in
theorem ggX9_tileSet_X9_radius : GoodIn wsX9_tileSet wsX9_radius := goodIn_r _ [5] (by decide +kernel) (by decide +kernel)
set_option maxRecDepth 20000 in
theorem gX9_tileSet_X9_radius : GoodIn wsX9_tileSet (wsV RX9 242 RX9 yX9_radius wsX9_radius) := goodIn_app (goodIn_of _ (by decide +kernel)) ggX9_tileSet_X9_radius
set_option maxRecDepth 20000 in
theorem ggX9_tileSet_X9_pointsIn : GoodIn wsX9_tileSet wsX9_pointsIn := goodIn_r _ [9, 10, 11, 12, 13, 14, 15, 4, 16, 17, 18, 19, 20, 21, 22, 23, 24, 25, 26, 27, 28, 29, 30, 31, 32, 33, 34, 35, 36, 37, 38, 39, 40, 41, 42, 43, 44, 45, 46, 47, 48, 49, 50, 51, 52, 53, 54] (by decide +kernel) (by decide +kernel)
set_option maxRecDepth 20000 in
theorem gX9_tileSet_X9_pointsIn : GoodIn wsX9_tileSet (wsV RX9 306 RX9 yX9_pointsIn wsX9_pointsIn) := goodIn_app (goodIn_of _ (by decide +kernel)) ggX9_tileSet_X9_pointsIn
set_option maxRecDepth 20000 in
theorem ggX9_filled_X9_isZoom : GoodIn wsX9_filled wsX9_isZoom := goodIn_r _ [9, 10, 11, 12, 13, 8, 14] (by decide +kernel) (by decide +kernel)
set_option maxRecDepth 20000 in
theorem gX9_filled_X9_isZoom : GoodIn wsX9_filled (wsV RX9 257 RX9 yX9_isZoom wsX9_isZoom) := goodIn_app (goodIn_of _ (by decide +kernel)) ggX9_filled_X9_isZoom
set_option maxRecDepth 20000 in
theorem ggX9_filled_X9_radius : GoodIn wsX9_filled wsX9_radius := goodIn_r _ [18] (by decide +kernel) (by decide +kernel)
set_option maxRecDepth 20000 in
theorem gX9_filled_X9_radius : GoodIn wsX9_filled (wsV RX9 242 RX9 yX9_radius wsX9_radius) := goodIn_app (goodIn_of _ (by decide +kernel)) ggX9_filled_X9_radius
set_option maxRecDepth 20000 in
theorem ggX9_densest_X9_isZoom : GoodIn wsX9_densest wsX9_isZoom := goodIn_r _ [10, 11, 12, 13, 14, 9, 15] (by decide +kernel) (by decide +kernel)
set_option maxRecDepth 20000 in
theorem gX9_densest_X9_isZoom : GoodIn wsX9_densest (wsV RX9 257 RX9 yX9_isZoom wsX9_isZoom) := goodIn_app (goodIn_of _ (by decide +kernel)) ggX9_densest_X9_isZoom
set_option maxRecDepth 20000 in
theorem ggX9_densest_X9_isIn : GoodIn wsX9_densest wsX9_isIn := goodIn_r _ [15] (by decide +kernel) (by decide +kernel)
set_option maxRecDepth 20000 in
theorem gX9_densest_X9_isIn : GoodIn wsX9_densest (wsV RX9 101 RX9 yX9_isIn wsX9_isIn) := goodIn_app (goodIn_of _ (by decide +kernel)) ggX9_densest_X9_isIn
set_option maxRecDepth 20000 in
theorem ggX9_densest_X9_radius : GoodIn wsX9_densest wsX9_radius := goodIn_r _ [19] (by decide +kernel) (by decide +kernel)
set_option maxRecDepth 20000 in
theorem gX9_densest_X9_radius : GoodIn wsX9_densest (wsV RX9 242 RX9 yX9_radius wsX9_radius) := goodIn_app (goodIn_of _ (by decide +kernel)) ggX9_densest_X9_radius
set_option maxRecDepth 20000 in
theorem ggX9_densest_X9_pointsIn : GoodIn wsX9_densest wsX9_pointsIn := goodIn_r _ [23, 2, 4, 5, 24, 25, 26, 9, 27, 41, 42, 43, 44, 45, 46, 47, 48, 49, 50, 51, 52, 53, 54, 55, 56, 57, 58, 59, 60, 61, 62, 63, 64, 65, 66, 67, 68, 69, 70, 71, 72, 73, 74, 75, 76, 77, 78] (by decide +kernel) (by decide +kernel)
set_option maxRecDepth 20000 in
theorem gX9_densest_X9_pointsIn : GoodIn wsX9_densest (wsV RX9 306 RX9 yX9_pointsIn wsX9_pointsIn) := goodIn_app (goodIn_of _ (by decide +kernel)) ggX9_densest_X9_pointsIn
set_option maxRecDepth 20000 in
theorem ggX9_densest_X9_weightOf : GoodIn wsX9_densest wsX9_weightOf := goodIn_r _ [31, 2, 32, 33, 34, 35, 9, 36, 41, 42, 43, 44, 45, 46, 47, 48, 49, 50, 51, 52, 53, 54, 55, 56, 57, 58, 59, 60, 61, 62, 63, 64, 65, 66, 67, 68, 69, 70, 71, 72, 73, 74, 75, 76, 77, 78] (by decide +kernel) (by decide +kernel)
set_option maxRecDepth 20000 in
theorem gX9_densest_X9_weightOf : GoodIn wsX9_densest (wsV RX9 215 RX9 yX9_weightOf wsX9_weightOf) := goodIn_app (goodIn_of _ (by decide +kernel)) ggX9_densest_X9_weightOf
set_option maxRecDepth 20000 in
theorem ggX9_densest_X9_bits : GoodIn wsX9_densest wsX9_bits := goodIn_r _ [40, 33, 34, 35, 9, 36] (by decide +kernel) (by decide +kernel)
set_option maxRecDepth 20000 in
theorem gX9_densest_X9_bits : GoodIn wsX9_densest (wsV RX9 224 RX9 yX9_bits wsX9_bits) := goodIn_app (goodIn_of _ (by decide +kernel)) ggX9_densest_X9_bits
set_option maxRecDepth 20000 in
theorem ggX9_tiles_X9_tileSet : GoodIn wsX9_tiles wsX9_tileSet := goodIn_r _ [5, 6, 7, 8, 4, 9, 10, 11, 12, 13, 14, 15, 16, 17, 18, 19, 20, 24, 25, 26, 27, 28, 29, 30, 31, 32, 33, 34, 35, 36, 37, 38, 39, 40, 41, 42, 43, 44, 45, 46, 47, 48, 49, 50, 51, 52, 53, 54, 55, 56, 57, 58, 59, 60, 61] (by decide +kernel) (by decide +kernel)
set_option maxRecDepth 20000 in
theorem gX9_tiles_X9_tileSet : GoodIn wsX9_tiles (wsV RX9 310 RX9 yX9_tileSet wsX9_tileSet) := goodIn_app (goodIn_of _ (by decide +kernel)) ggX9_tiles_X9_tileSet
set_option maxRecDepth 20000 in
theorem ggX9_tiles_X9_tiles : GoodIn wsX9_tiles wsX9_tiles := goodIn_r _ [0, 1, 2, 3, 4, 5, 6, 7, 8, 9, 10, 11, 12, 13, 14, 15, 16, 17, 18, 19, 20, 21, 22, 23, 24, 25, 26, 27, 28, 29, 30, 31, 32, 33, 34, 35, 36, 37, 38, 39, 40, 41, 42, 43, 44, 45, 46, 47, 48, 49, 50, 51, 52, 53, 54, 55, 56, 57, 58, 59, 60, 61] (by decide +kernel) (by decide +kernel)
set_option maxRecDepth 20000 in
theorem gX9_tiles_X9_tiles : GoodIn wsX9_tiles (wsV RX9 313 RX9 yX9_tiles wsX9_tiles) := goodIn_app (goodIn_of _ (by decide +kernel)) ggX9_tiles_X9_tiles
set_option maxRecDepth 20000 in
theorem ggX9_cover_X9_groupSet : GoodIn wsX9_cover wsX9_groupSet := goodIn_r _ [6, 7, 8, 9, 10, 11, 5, 12, 13, 14, 15, 16, 17, 18, 19, 20, 21, 22, 23, 24, 25, 26, 27, 28, 29, 30, 31, 32, 33, 34, 35, 36, 37, 38, 39, 40, 41, 42, 43, 44, 45, 46, 47, 48, 49, 50, 51, 70, 71, 72, 73, 74, 75, 76, 77, 78, 79, 80, 81, 82, 83, 84, 85, 86, 87, 88, 89, 90, 91, 92, 93, 94, 95, 96, 97, 98, 99, 100, 101, 102, 103, 104, 105, 106, 107] (by decide +kernel) (by decide +kernel)
set_option maxRecDepth 20000 in
theorem gX9_cover_X9_groupSet : GoodIn wsX9_cover (wsV RX9 269 RX9 yX9_groupSet wsX9_groupSet) := goodIn_app (goodIn_of _ (by decide +kernel)) ggX9_cover_X9_groupSet
set_option maxRecDepth 20000 in
theorem ggX9_cover_X9_tiles : GoodIn wsX9_cover wsX9_tiles := goodIn_r _ [55, 56, 57, 58, 5, 59, 31, 32, 33, 34, 60, 61, 62, 63, 7, 64, 65, 66, 67, 68, 69, 52, 53, 54, 70, 71, 72, 73, 74, 75, 76, 77, 78, 79, 80, 81, 82, 83, 84, 85, 86, 87, 88, 89, 90, 91, 92, 93, 94, 95, 96, 97, 98, 99, 100, 101, 102, 103, 104, 105, 106, 107] (by decide +kernel) (by decide +kernel)
set_option maxRecDepth 20000 in
theorem gX9_cover_X9_tiles : GoodIn wsX9_cover (wsV RX9 313 RX9 yX9_tiles wsX9_tiles) := goodIn_app (goodIn_of _ (by decide +kernel)) ggX9_cover_X9_tiles
set_option maxRecDepth 20000 in
theorem ggX9_tile_X9_isZoom : GoodIn wsX9_tile wsX9_isZoom := goodIn_r _ [7, 8, 9, 10, 11, 6, 12] (by decide +kernel) (by decide +kernel)
set_option maxRecDepth 20000 in
theorem gX9_tile_X9_isZoom : GoodIn wsX9_tile (wsV RX9 257 RX9 yX9_isZoom wsX9_isZoom) := goodIn_app (goodIn_of _ (by decide +kernel)) ggX9_tile_X9_isZoom
set_option maxRecDepth 20000 in
theorem ggX9_tile_X9_isIn : GoodIn wsX9_tile wsX9_isIn := goodIn_r _ [12] (by decide +kernel) (by decide +kernel)
set_option maxRecDepth 20000 in
theorem gX9_tile_X9_isIn : GoodIn wsX9_tile (wsV RX9 101 RX9 yX9_isIn wsX9_isIn) := goodIn_app (goodIn_of _ (by decide +kernel)) ggX9_tile_X9_isIn
set_option maxRecDepth 20000 in
theorem ggX9_tile_X9_tileSet : GoodIn wsX9_tile wsX9_tileSet := goodIn_r _ [16, 17, 18, 19, 6, 20, 21, 22, 23, 24, 25, 26, 27, 28, 29, 30, 31, 84, 85, 86, 87, 88, 89, 90, 91, 92, 93, 94, 95, 96, 97, 98, 99, 100, 101, 102, 103, 104, 105, 106, 107, 108, 109, 110, 111, 112, 113, 114, 115, 116, 117, 118, 119, 120, 121] (by decide +kernel) (by decide +kernel)
set_option maxRecDepth 20000 in
theorem gX9_tile_X9_tileSet : GoodIn wsX9_tile (wsV RX9 310 RX9 yX9_tileSet wsX9_tileSet) := goodIn_app (goodIn_of _ (by decide +kernel)) ggX9_tile_X9_tileSet
set_option maxRecDepth 20000 in
theorem ggX9_tile_X9_bits : GoodIn wsX9_tile wsX9_bits := goodIn_r _ [35, 36, 37, 38, 6, 39] (by decide +kernel) (by decide +kernel)
set_option maxRecDepth 20000 in
theorem gX9_tile_X9_bits : GoodIn wsX9_tile (wsV RX9 224 RX9 yX9_bits wsX9_bits) := goodIn_app (goodIn_of _ (by decide +kernel)) ggX9_tile_X9_bits
set_option maxRecDepth 20000 in
theorem ggX9_tile_X9_weightOf : GoodIn wsX9_tile wsX9_weightOf := goodIn_r _ [43, 25, 44, 36, 37, 38, 6, 39, 84, 85, 86, 87, 88, 89, 90, 91, 92, 93, 94, 95, 96, 97, 98, 99, 100, 101, 102, 103, 104, 105, 106, 107, 108, 109, 110, 111, 112, 113, 114, 115, 116, 117, 118, 119, 120, 121] (by decide +kernel) (by decide +kernel)
set_option maxRecDepth 20000 in
theorem gX9_tile_X9_weightOf : GoodIn wsX9_tile (wsV RX9 215 RX9 yX9_weightOf wsX9_weightOf) := goodIn_app (goodIn_of _ (by decide +kernel)) ggX9_tile_X9_weightOf
set_option maxRecDepth 20000 in
theorem ggX9_tile_X9_radius : GoodIn wsX9_tile wsX9_radius := goodIn_r _ [20] (by decide +kernel) (by decide +kernel)
set_option maxRecDepth 20000 in
theorem gX9_tile_X9_radius : GoodIn wsX9_tile (wsV RX9 242 RX9 yX9_radius wsX9_radius) := goodIn_app (goodIn_of _ (by decide +kernel)) ggX9_tile_X9_radius
set_option maxRecDepth 20000 in
theorem ggX9_tile_X9_laysZoom : GoodIn wsX9_tile wsX9_laysZoom := goodIn_r _ [48, 49, 50, 51, 6, 52, 53, 54, 55, 56, 57, 25, 17, 18, 19, 20, 58, 59, 60, 61, 62, 63, 36, 37, 38, 39, 84, 85, 86, 87, 88, 89, 90, 91, 92, 93, 94, 95, 96, 97, 98, 99, 100, 101, 102, 103, 104, 105, 106, 107, 108, 109, 110, 111, 112, 113, 114, 115, 116, 117, 118, 119, 120, 121] (by decide +kernel) (by decide +kernel)
set_option maxRecDepth 20000 in
theorem gX9_tile_X9_laysZoom : GoodIn wsX9_tile (wsV RX9 260 RX9 yX9_laysZoom wsX9_laysZoom) := goodIn_app (goodIn_of _ (by decide +kernel)) ggX9_tile_X9_laysZoom
set_option maxRecDepth 20000 in
theorem ggX9_tile_X9_centredIn : GoodIn wsX9_tile wsX9_centredIn := goodIn_r _ [67, 25, 62, 68, 69, 70, 6, 71, 72, 73, 74, 75, 36, 37, 38, 39, 76, 77, 78, 79, 80, 81, 82, 83, 44, 26, 27, 40, 41, 42, 43, 28, 29, 30, 31, 84, 85, 86, 87, 88, 89, 90, 91, 92, 93, 94, 95, 96, 97, 98, 99, 100, 101, 102, 103, 104, 105, 106, 107, 108, 109, 110, 111, 112, 113, 114, 115, 116, 117, 118, 119, 120, 121] (by decide +kernel) (by decide +kernel)
set_option maxRecDepth 20000 in
theorem gX9_tile_X9_centredIn : GoodIn wsX9_tile (wsV RX9 302 RX9 yX9_centredIn wsX9_centredIn) := goodIn_app (goodIn_of _ (by decide +kernel)) ggX9_tile_X9_centredIn
set_option maxRecDepth 20000 in
theorem ggX9_nextCorner_X9_has : GoodIn wsX9_nextCorner wsX9_has := goodIn_r _ [6] (by decide +kernel) (by decide +kernel)
set_option maxRecDepth 20000 in
theorem gX9_nextCorner_X9_has : GoodIn wsX9_nextCorner (wsV RX9 123 RX9 yX9_has wsX9_has) := goodIn_app (goodIn_of _ (by decide +kernel)) ggX9_nextCorner_X9_has
set_option maxRecDepth 20000 in
theorem ggX9_nextCorner_X9_turn : GoodIn wsX9_nextCorner wsX9_turn := goodIn_r _ [10, 11, 12, 17, 18, 19, 20, 21, 22, 23, 24, 25, 26, 27, 28, 29, 30, 31, 32, 33, 34, 35, 36, 37, 38, 39, 40, 41, 42, 43, 44, 45, 46, 47, 48, 49, 50, 51, 52, 53, 54] (by decide +kernel) (by decide +kernel)
set_option maxRecDepth 20000 in
theorem gX9_nextCorner_X9_turn : GoodIn wsX9_nextCorner (wsV RX9 316 RX9 yX9_turn wsX9_turn) := goodIn_app (goodIn_of _ (by decide +kernel)) ggX9_nextCorner_X9_turn
set_option maxRecDepth 20000 in
theorem ggX9_nextCorner_X9_apart : GoodIn wsX9_nextCorner wsX9_apart := goodIn_r _ [16, 11, 12, 17, 18, 19, 20, 21, 22, 23, 24, 25, 26, 27, 28, 29, 30, 31, 32, 33, 34, 35, 36, 37, 38, 39, 40, 41, 42, 43, 44, 45, 46, 47, 48, 49, 50, 51, 52, 53, 54] (by decide +kernel) (by decide +kernel)
set_option maxRecDepth 20000 in
theorem gX9_nextCorner_X9_apart : GoodIn wsX9_nextCorner (wsV RX9 107 RX9 yX9_apart wsX9_apart) := goodIn_app (goodIn_of _ (by decide +kernel)) ggX9_nextCorner_X9_apart
set_option maxRecDepth 20000 in
theorem ggX9_laysOutline_X9_least : GoodIn wsX9_laysOutline wsX9_least := goodIn_r _ [7, 8, 9, 10, 6, 11] (by decide +kernel) (by decide +kernel)
set_option maxRecDepth 20000 in
theorem gX9_laysOutline_X9_least : GoodIn wsX9_laysOutline (wsV RX9 251 RX9 yX9_least wsX9_least) := goodIn_app (goodIn_of _ (by decide +kernel)) ggX9_laysOutline_X9_least
set_option maxRecDepth 20000 in
theorem ggX9_laysOutline_X9_bits : GoodIn wsX9_laysOutline wsX9_bits := goodIn_r _ [15, 8, 9, 10, 6, 11] (by decide +kernel) (by decide +kernel)
set_option maxRecDepth 20000 in
theorem gX9_laysOutline_X9_bits : GoodIn wsX9_laysOutline (wsV RX9 224 RX9 yX9_bits wsX9_bits) := goodIn_app (goodIn_of _ (by decide +kernel)) ggX9_laysOutline_X9_bits
set_option maxRecDepth 20000 in
theorem ggX9_laysOutline_X9_nextCorner : GoodIn wsX9_laysOutline wsX9_nextCorner := goodIn_r _ [19, 20, 8, 9, 10, 6, 11, 21, 22, 23, 24, 25, 26, 27, 28, 29, 30, 31, 32, 33, 34, 35, 36, 37, 38, 39, 40, 41, 42, 43, 44, 45, 46, 47, 48, 49, 50, 51, 52, 53, 54, 55, 56, 57, 58, 59, 60, 61, 62, 63, 64, 65, 66, 67, 68] (by decide +kernel) (by decide +kernel)
set_option maxRecDepth 20000 in
theorem gX9_laysOutline_X9_nextCorner : GoodIn wsX9_laysOutline (wsV RX9 322 RX9 yX9_nextCorner wsX9_nextCorner) := goodIn_app (goodIn_of _ (by decide +kernel)) ggX9_laysOutline_X9_nextCorner
set_option maxRecDepth 20000 in
theorem ggX9_outline_X9_groupSet : GoodIn wsX9_outline wsX9_groupSet := goodIn_r _ [8, 9, 10, 11, 12, 13, 7, 14, 15, 16, 17, 18, 19, 20, 21, 22, 23, 24, 25, 26, 27, 28, 29, 30, 31, 32, 33, 34, 35, 36, 37, 38, 39, 40, 41, 42, 43, 44, 45, 46, 47, 48, 49, 50, 51, 52, 53, 76, 77, 78, 79, 80, 81, 82, 83, 84, 85, 86, 87, 88, 89, 90, 91, 92, 93, 94, 95, 96, 97, 98, 99, 100, 101, 102, 103, 104, 105, 106, 107, 108, 109, 110, 111, 112, 113] (by decide +kernel) (by decide +kernel)
set_option maxRecDepth 20000 in
theorem gX9_outline_X9_groupSet : GoodIn wsX9_outline (wsV RX9 269 RX9 yX9_groupSet wsX9_groupSet) := goodIn_app (goodIn_of _ (by decide +kernel)) ggX9_outline_X9_groupSet
set_option maxRecDepth 20000 in
theorem ggX9_outline_X9_laysOutline : GoodIn wsX9_outline wsX9_laysOutline := goodIn_r _ [57, 3, 2, 50, 51, 52, 7, 53, 42, 43, 44, 45, 58, 59, 60, 61, 62, 63, 64, 65, 9, 66, 67, 68, 69, 70, 71, 72, 73, 74, 75, 76, 77, 78, 79, 80, 81, 82, 83, 84, 85, 86, 87, 88, 89, 90, 91, 92, 93, 94, 95, 96, 97, 98, 99, 100, 101, 102, 103, 104, 105, 106, 107, 108, 109, 110, 111, 112, 113] (by decide +kernel) (by decide +kernel)
set_option maxRecDepth 20000 in
theorem gX9_outline_X9_laysOutline : GoodIn wsX9_outline (wsV RX9 325 RX9 yX9_laysOutline wsX9_laysOutline) := goodIn_app (goodIn_of _ (by decide +kernel)) ggX9_outline_X9_laysOutline
set_option maxRecDepth 20000 in
theorem ggX9_outline_X9_isIn : GoodIn wsX9_outline wsX9_isIn := goodIn_r _ [19] (by decide +kernel) (by decide +kernel)
set_option maxRecDepth 20000 in
theorem gX9_outline_X9_isIn : GoodIn wsX9_outline (wsV RX9 101 RX9 yX9_isIn wsX9_isIn) := goodIn_app (goodIn_of _ (by decide +kernel)) ggX9_outline_X9_isIn
set_option maxRecDepth 20000 in
theorem ggX9_area_X9_groupSet : GoodIn wsX9_area wsX9_groupSet := goodIn_r _ [8, 9, 10, 11, 12, 13, 7, 14, 15, 16, 17, 18, 19, 20, 21, 22, 23, 24, 25, 26, 27, 28, 29, 30, 31, 32, 33, 34, 35, 36, 37, 38, 39, 40, 41, 42, 43, 44, 45, 46, 47, 48, 49, 50, 51, 52, 53, 76, 77, 78, 79, 80, 81, 82, 83, 84, 85, 86, 87, 88, 89, 90, 91, 92, 93, 94, 95, 96, 97, 98, 99, 100, 101, 102, 103, 104, 105, 106, 107, 108, 109, 110, 111, 112, 113] (by decide +kernel) (by decide +kernel)
set_option maxRecDepth 20000 in
theorem gX9_area_X9_groupSet : GoodIn wsX9_area (wsV RX9 269 RX9 yX9_groupSet wsX9_groupSet) := goodIn_app (goodIn_of _ (by decide +kernel)) ggX9_area_X9_groupSet
set_option maxRecDepth 20000 in
theorem ggX9_area_X9_laysOutline : GoodIn wsX9_area wsX9_laysOutline := goodIn_r _ [57, 3, 2, 50, 51, 52, 7, 53, 42, 43, 44, 45, 58, 59, 60, 61, 62, 63, 64, 65, 9, 66, 67, 68, 69, 70, 71, 72, 73, 74, 75, 76, 77, 78, 79, 80, 81, 82, 83, 84, 85, 86, 87, 88, 89, 90, 91, 92, 93, 94, 95, 96, 97, 98, 99, 100, 101, 102, 103, 104, 105, 106, 107, 108, 109, 110, 111, 112, 113] (by decide +kernel) (by decide +kernel)
set_option maxRecDepth 20000 in
theorem gX9_area_X9_laysOutline : GoodIn wsX9_area (wsV RX9 325 RX9 yX9_laysOutline wsX9_laysOutline) := goodIn_app (goodIn_of _ (by decide +kernel)) ggX9_area_X9_laysOutline
set_option maxRecDepth 20000 in
theorem ggX9_area_X9_turn : GoodIn wsX9_area wsX9_turn := goodIn_r _ [69, 70, 71, 76, 77, 78, 79, 80, 81, 82, 83, 84, 85, 86, 87, 88, 89, 90, 91, 92, 93, 94, 95, 96, 97, 98, 99, 100, 101, 102, 103, 104, 105, 106, 107, 108, 109, 110, 111, 112, 113] (by decide +kernel) (by decide +kernel)
set_option maxRecDepth 20000 in
theorem gX9_area_X9_turn : GoodIn wsX9_area (wsV RX9 316 RX9 yX9_turn wsX9_turn) := goodIn_app (goodIn_of _ (by decide +kernel)) ggX9_area_X9_turn
set_option maxRecDepth 20000 in
theorem ggX9_farther_X9_centre : GoodIn wsX9_farther wsX9_centre := goodIn_r _ [12, 13, 14, 15, 16, 17, 18, 19, 11, 20, 21, 22, 23, 24, 25, 26, 27, 28, 29, 30, 31, 32, 33, 34, 35, 36, 37, 38, 39, 40, 41, 42, 43, 44, 45, 46, 47, 48, 49, 50, 51, 52, 53, 54, 55, 56, 57, 58, 59, 60, 61, 62] (by decide +kernel) (by decide +kernel)
set_option maxRecDepth 20000 in
theorem gX9_farther_X9_centre : GoodIn wsX9_farther (wsV RX9 276 RX9 yX9_centre wsX9_centre) := goodIn_app (goodIn_of _ (by decide +kernel)) ggX9_farther_X9_centre
set_option maxRecDepth 20000 in
theorem ggX9_drift_X9_isIn : GoodIn wsX9_drift wsX9_isIn := goodIn_r _ [10] (by decide +kernel) (by decide +kernel)
set_option maxRecDepth 20000 in
theorem gX9_drift_X9_isIn : GoodIn wsX9_drift (wsV RX9 101 RX9 yX9_isIn wsX9_isIn) := goodIn_app (goodIn_of _ (by decide +kernel)) ggX9_drift_X9_isIn
set_option maxRecDepth 20000 in
theorem ggX9_drift_X9_laysZoom : GoodIn wsX9_drift wsX9_laysZoom := goodIn_r _ [14, 15, 16, 17, 9, 18, 19, 20, 21, 22, 23, 3, 24, 25, 26, 27, 28, 29, 30, 31, 5, 32, 33, 34, 35, 36, 67, 68, 69, 70, 71, 72, 73, 74, 75, 76, 77, 78, 79, 80, 81, 82, 83, 84, 85, 86, 87, 88, 89, 90, 91, 92, 93, 94, 95, 96, 97, 98, 99, 100, 101, 102, 103, 104] (by decide +kernel) (by decide +kernel)
set_option maxRecDepth 20000 in
theorem gX9_drift_X9_laysZoom : GoodIn wsX9_drift (wsV RX9 260 RX9 yX9_laysZoom wsX9_laysZoom) := goodIn_app (goodIn_of _ (by decide +kernel)) ggX9_drift_X9_laysZoom
set_option maxRecDepth 20000 in
theorem ggX9_drift_X9_isFirst : GoodIn wsX9_drift wsX9_isFirst := goodIn_r _ [40, 5, 41, 42, 43, 9, 44, 33, 34, 35, 36, 67, 68, 69, 70, 71, 72, 73, 74, 75, 76, 77, 78, 79, 80, 81, 82, 83, 84, 85, 86, 87, 88, 89, 90, 91, 92, 93, 94, 95, 96, 97, 98, 99, 100, 101, 102, 103, 104] (by decide +kernel) (by decide +kernel)
set_option maxRecDepth 20000 in
theorem gX9_drift_X9_isFirst : GoodIn wsX9_drift (wsV RX9 254 RX9 yX9_isFirst wsX9_isFirst) := goodIn_app (goodIn_of _ (by decide +kernel)) ggX9_drift_X9_isFirst
set_option maxRecDepth 20000 in
theorem ggX9_drift_X9_farther : GoodIn wsX9_drift wsX9_farther := goodIn_r _ [48, 49, 50, 51, 52, 53, 54, 55, 56, 57, 58, 9, 59, 3, 60, 61, 62, 33, 34, 35, 36, 63, 64, 65, 66, 67, 68, 69, 70, 71, 72, 73, 74, 75, 76, 77, 78, 79, 80, 81, 82, 83, 84, 85, 86, 87, 88, 89, 90, 91, 92, 93, 94, 95, 96, 97, 98, 99, 100, 101, 102, 103, 104] (by decide +kernel) (by decide +kernel)
set_option maxRecDepth 20000 in
theorem gX9_drift_X9_farther : GoodIn wsX9_drift (wsV RX9 333 RX9 yX9_farther wsX9_farther) := goodIn_app (goodIn_of _ (by decide +kernel)) ggX9_drift_X9_farther
set_option maxRecDepth 20000 in
theorem ggX9_part_X9_isIn : GoodIn wsX9_part wsX9_isIn := goodIn_r _ [8] (by decide +kernel) (by decide +kernel)
set_option maxRecDepth 20000 in
theorem gX9_part_X9_isIn : GoodIn wsX9_part (wsV RX9 101 RX9 yX9_isIn wsX9_isIn) := goodIn_app (goodIn_of _ (by decide +kernel)) ggX9_part_X9_isIn
set_option maxRecDepth 20000 in
theorem ggX9_part_X9_isPoint : GoodIn wsX9_part wsX9_isPoint := goodIn_r _ [12, 2, 4, 5, 6, 7, 8, 26, 27, 28, 29, 30, 31, 32, 33, 34, 35, 36, 37, 38, 39, 40, 41, 42, 43, 44, 45, 46, 47, 48, 49, 50, 51, 52, 53, 54, 55, 56, 57, 58, 59, 60, 61, 62, 63] (by decide +kernel) (by decide +kernel)
set_option maxRecDepth 20000 in
theorem gX9_part_X9_isPoint : GoodIn wsX9_part (wsV RX9 182 RX9 yX9_isPoint wsX9_isPoint) := goodIn_app (goodIn_of _ (by decide +kernel)) ggX9_part_X9_isPoint
set_option maxRecDepth 20000 in
theorem ggX9_part_X9_laysParts : GoodIn wsX9_part wsX9_laysParts := goodIn_r _ [16, 2, 3, 17, 18, 19, 20, 7, 21, 26, 27, 28, 29, 30, 31, 32, 33, 34, 35, 36, 37, 38, 39, 40, 41, 42, 43, 44, 45, 46, 47, 48, 49, 50, 51, 52, 53, 54, 55, 56, 57, 58, 59, 60, 61, 62, 63] (by decide +kernel) (by decide +kernel)
set_option maxRecDepth 20000 in
theorem gX9_part_X9_laysParts : GoodIn wsX9_part (wsV RX9 248 RX9 yX9_laysParts wsX9_laysParts) := goodIn_app (goodIn_of _ (by decide +kernel)) ggX9_part_X9_laysParts
set_option maxRecDepth 20000 in
theorem ggX9_part_X9_least : GoodIn wsX9_part wsX9_least := goodIn_r _ [25, 18, 19, 20, 7, 21] (by decide +kernel) (by decide +kernel)
set_option maxRecDepth 20000 in
theorem gX9_part_X9_least : GoodIn wsX9_part (wsV RX9 251 RX9 yX9_least wsX9_least) := goodIn_app (goodIn_of _ (by decide +kernel)) ggX9_part_X9_least
set_option maxRecDepth 20000 in
theorem ggX9_clearest_X9_root : GoodIn wsX9_clearest wsX9_root := goodIn_r _ [8] (by decide +kernel) (by decide +kernel)
set_option maxRecDepth 20000 in
theorem gX9_clearest_X9_root : GoodIn wsX9_clearest (wsV RX9 218 RX9 yX9_root wsX9_root) := goodIn_app (goodIn_of _ (by decide +kernel)) ggX9_clearest_X9_root
set_option maxRecDepth 20000 in
theorem ggX9_bestOf_X9_lasts : GoodIn wsX9_bestOf wsX9_lasts := goodIn_r _ [11, 12, 13, 14, 15, 16, 17, 18, 10, 19, 20, 21, 22, 23, 24, 25, 26, 27, 28, 29, 33, 34, 35, 36, 37, 38, 39, 40, 41, 42, 43, 44, 45, 46, 47, 48, 49, 50, 51, 52, 53, 54, 55, 56, 57, 58, 59, 60, 61, 62, 63, 64, 65, 66, 67, 68, 69, 70] (by decide +kernel) (by decide +kernel)
set_option maxRecDepth 20000 in
theorem gX9_bestOf_X9_lasts : GoodIn wsX9_bestOf (wsV RX9 227 RX9 yX9_lasts wsX9_lasts) := goodIn_app (goodIn_of _ (by decide +kernel)) ggX9_bestOf_X9_lasts
set_option maxRecDepth 20000 in
theorem ggX9_bestOf_X9_bestOf : GoodIn wsX9_bestOf wsX9_bestOf := goodIn_r _ [0, 1, 2, 3, 4, 5, 6, 7, 8, 9, 10, 11, 12, 13, 14, 15, 16, 17, 18, 19, 20, 21, 22, 23, 24, 25, 26, 27, 28, 29, 30, 31, 32, 33, 34, 35, 36, 37, 38, 39, 40, 41, 42, 43, 44, 45, 46, 47, 48, 49, 50, 51, 52, 53, 54, 55, 56, 57, 58, 59, 60, 61, 62, 63, 64, 65, 66, 67, 68, 69, 70] (by decide +kernel) (by decide +kernel)
set_option maxRecDepth 20000 in
theorem gX9_bestOf_X9_bestOf : GoodIn wsX9_bestOf (wsV RX9 336 RX9 yX9_bestOf wsX9_bestOf) := goodIn_app (goodIn_of _ (by decide +kernel)) ggX9_bestOf_X9_bestOf
set_option maxRecDepth 20000 in
theorem ggX9_takesBest_X9_lasts : GoodIn wsX9_takesBest wsX9_lasts := goodIn_r _ [9, 10, 11, 12, 13, 14, 15, 16, 8, 17, 18, 19, 20, 21, 22, 23, 24, 25, 26, 27, 47, 48, 49, 50, 51, 52, 53, 54, 55, 56, 57, 58, 59, 60, 61, 62, 63, 64, 65, 66, 67, 68, 69, 70, 71, 72, 73, 74, 75, 76, 77, 78, 79, 80, 81, 82, 83, 84] (by decide +kernel) (by decide +kernel)
set_option maxRecDepth 20000 in
theorem gX9_takesBest_X9_lasts : GoodIn wsX9_takesBest (wsV RX9 227 RX9 yX9_lasts wsX9_lasts) := goodIn_app (goodIn_of _ (by decide +kernel)) ggX9_takesBest_X9_lasts
set_option maxRecDepth 20000 in
theorem ggX9_takesBest_X9_bestOf : GoodIn wsX9_takesBest wsX9_bestOf := goodIn_r _ [31, 1, 2, 32, 33, 34, 35, 5, 6, 7, 8, 9, 10, 11, 12, 13, 14, 15, 16, 17, 18, 19, 20, 21, 22, 23, 24, 25, 26, 27, 28, 29, 30, 47, 48, 49, 50, 51, 52, 53, 54, 55, 56, 57, 58, 59, 60, 61, 62, 63, 64, 65, 66, 67, 68, 69, 70, 71, 72, 73, 74, 75, 76, 77, 78, 79, 80, 81, 82, 83, 84] (by decide +kernel) (by decide +kernel)
set_option maxRecDepth 20000 in
theorem gX9_takesBest_X9_bestOf : GoodIn wsX9_takesBest (wsV RX9 336 RX9 yX9_bestOf wsX9_bestOf) := goodIn_app (goodIn_of _ (by decide +kernel)) ggX9_takesBest_X9_bestOf
set_option maxRecDepth 20000 in
theorem ggX9_takesBest_X9_takesBest : GoodIn wsX9_takesBest wsX9_takesBest := goodIn_r _ [0, 1, 2, 3, 4, 5, 6, 7, 8, 9, 10, 11, 12, 13, 14, 15, 16, 17, 18, 19, 20, 21, 22, 23, 24, 25, 26, 27, 28, 29, 30, 31, 32, 33, 34, 35, 36, 37, 38, 39, 40, 41, 42, 43, 44, 45, 46, 47, 48, 49, 50, 51, 52, 53, 54, 55, 56, 57, 58, 59, 60, 61, 62, 63, 64, 65, 66, 67, 68, 69, 70, 71, 72, 73, 74, 75, 76, 77, 78, 79, 80, 81, 82, 83, 84] (by decide +kernel) (by decide +kernel)
set_option maxRecDepth 20000 in
theorem gX9_takesBest_X9_takesBest : GoodIn wsX9_takesBest (wsV RX9 339 RX9 yX9_takesBest wsX9_takesBest) := goodIn_app (goodIn_of _ (by decide +kernel)) ggX9_takesBest_X9_takesBest
set_option maxRecDepth 20000 in
theorem ggX9_takesBest_X9_setOfNode : GoodIn wsX9_takesBest wsX9_setOfNode := goodIn_r _ [42, 10, 47, 48, 49, 50, 51, 52, 53, 54, 55, 56, 57, 58, 59, 60, 61, 62, 63, 64, 65, 66, 67, 68, 69, 70, 71, 72, 73, 74, 75, 76, 77, 78, 79, 80, 81, 82, 83, 84] (by decide +kernel) (by decide +kernel)
set_option maxRecDepth 20000 in
theorem gX9_takesBest_X9_setOfNode : GoodIn wsX9_takesBest (wsV RX9 345 RX9 yX9_setOfNode wsX9_setOfNode) := goodIn_app (goodIn_of _ (by decide +kernel)) ggX9_takesBest_X9_setOfNode
set_option maxRecDepth 20000 in
theorem ggX9_takesBest_X9_least : GoodIn wsX9_takesBest wsX9_least := goodIn_r _ [46, 20, 21, 22, 8, 23] (by decide +kernel) (by decide +kernel)
set_option maxRecDepth 20000 in
theorem gX9_takesBest_X9_least : GoodIn wsX9_takesBest (wsV RX9 251 RX9 yX9_least wsX9_least) := goodIn_app (goodIn_of _ (by decide +kernel)) ggX9_takesBest_X9_least
set_option maxRecDepth 20000 in
theorem ggX9_best_X9_takesBest : GoodIn wsX9_best wsX9_takesBest := goodIn_r _ [11, 12, 13, 2, 6, 14, 15, 16, 10, 17, 18, 19, 20, 21, 22, 23, 24, 25, 3, 26, 27, 28, 29, 30, 31, 32, 33, 34, 35, 36, 37, 38, 39, 40, 41, 42, 7, 8, 9, 43, 44, 45, 46, 47, 48, 49, 50, 55, 56, 57, 58, 59, 60, 61, 62, 63, 64, 65, 66, 67, 68, 69, 70, 71, 72, 73, 74, 75, 76, 77, 78, 79, 80, 81, 82, 83, 84, 85, 86, 87, 88, 89, 90, 91, 92] (by decide +kernel) (by decide +kernel)
set_option maxRecDepth 20000 in
theorem gX9_best_X9_takesBest : GoodIn wsX9_best (wsV RX9 339 RX9 yX9_takesBest wsX9_takesBest) := goodIn_app (goodIn_of _ (by decide +kernel)) ggX9_best_X9_takesBest
set_option maxRecDepth 20000 in
theorem ggX9_best_X9_bestOf : GoodIn wsX9_best wsX9_bestOf := goodIn_r _ [38, 12, 13, 39, 40, 41, 42, 14, 15, 16, 10, 17, 18, 19, 20, 21, 22, 23, 24, 25, 3, 26, 27, 28, 29, 30, 31, 32, 33, 34, 35, 36, 37, 55, 56, 57, 58, 59, 60, 61, 62, 63, 64, 65, 66, 67, 68, 69, 70, 71, 72, 73, 74, 75, 76, 77, 78, 79, 80, 81, 82, 83, 84, 85, 86, 87, 88, 89, 90, 91, 92] (by decide +kernel) (by decide +kernel)
set_option maxRecDepth 20000 in
theorem gX9_best_X9_bestOf : GoodIn wsX9_best (wsV RX9 336 RX9 yX9_bestOf wsX9_bestOf) := goodIn_app (goodIn_of _ (by decide +kernel)) ggX9_best_X9_bestOf
set_option maxRecDepth 20000 in
theorem ggX9_best_X9_isIn : GoodIn wsX9_best wsX9_isIn := goodIn_r _ [54] (by decide +kernel) (by decide +kernel)
set_option maxRecDepth 20000 in
theorem gX9_best_X9_isIn : GoodIn wsX9_best (wsV RX9 101 RX9 yX9_isIn wsX9_isIn) := goodIn_app (goodIn_of _ (by decide +kernel)) ggX9_best_X9_isIn
set_option maxRecDepth 20000 in
theorem ggX9_laysLabels_X9_laysZoom : GoodIn wsX9_laysLabels wsX9_laysZoom := goodIn_r _ [12, 13, 14, 15, 11, 16, 17, 18, 19, 20, 21, 2, 22, 23, 24, 25, 26, 27, 28, 29, 4, 30, 31, 32, 33, 34, 65, 66, 67, 68, 69, 70, 71, 72, 73, 74, 75, 76, 77, 78, 79, 80, 81, 82, 83, 84, 85, 86, 87, 88, 89, 90, 91, 92, 93, 94, 95, 96, 97, 98, 99, 100, 101, 102] (by decide +kernel) (by decide +kernel)
set_option maxRecDepth 20000 in
theorem gX9_laysLabels_X9_laysZoom : GoodIn wsX9_laysLabels (wsV RX9 260 RX9 yX9_laysZoom wsX9_laysZoom) := goodIn_app (goodIn_of _ (by decide +kernel)) ggX9_laysLabels_X9_laysZoom
set_option maxRecDepth 20000 in
theorem ggX9_laysLabels_X9_isFirst : GoodIn wsX9_laysLabels wsX9_isFirst := goodIn_r _ [38, 4, 39, 40, 41, 11, 42, 31, 32, 33, 34, 65, 66, 67, 68, 69, 70, 71, 72, 73, 74, 75, 76, 77, 78, 79, 80, 81, 82, 83, 84, 85, 86, 87, 88, 89, 90, 91, 92, 93, 94, 95, 96, 97, 98, 99, 100, 101, 102] (by decide +kernel) (by decide +kernel)
set_option maxRecDepth 20000 in
theorem gX9_laysLabels_X9_isFirst : GoodIn wsX9_laysLabels (wsV RX9 254 RX9 yX9_isFirst wsX9_isFirst) := goodIn_app (goodIn_of _ (by decide +kernel)) ggX9_laysLabels_X9_isFirst
set_option maxRecDepth 20000 in
theorem ggX9_laysLabels_X9_weightOf : GoodIn wsX9_laysLabels wsX9_weightOf := goodIn_r _ [46, 2, 47, 31, 32, 33, 11, 34, 65, 66, 67, 68, 69, 70, 71, 72, 73, 74, 75, 76, 77, 78, 79, 80, 81, 82, 83, 84, 85, 86, 87, 88, 89, 90, 91, 92, 93, 94, 95, 96, 97, 98, 99, 100, 101, 102] (by decide +kernel) (by decide +kernel)
set_option maxRecDepth 20000 in
theorem gX9_laysLabels_X9_weightOf : GoodIn wsX9_laysLabels (wsV RX9 215 RX9 yX9_weightOf wsX9_weightOf) := goodIn_app (goodIn_of _ (by decide +kernel)) ggX9_laysLabels_X9_weightOf
set_option maxRecDepth 20000 in
theorem ggX9_laysLabels_X9_farther : GoodIn wsX9_laysLabels wsX9_farther := goodIn_r _ [51, 52, 53, 54, 55, 56, 57, 58, 59, 60, 61, 11, 62, 2, 47, 63, 64, 31, 32, 33, 34, 43, 44, 45, 46, 65, 66, 67, 68, 69, 70, 71, 72, 73, 74, 75, 76, 77, 78, 79, 80, 81, 82, 83, 84, 85, 86, 87, 88, 89, 90, 91, 92, 93, 94, 95, 96, 97, 98, 99, 100, 101, 102] (by decide +kernel) (by decide +kernel)
set_option maxRecDepth 20000 in
theorem gX9_laysLabels_X9_farther : GoodIn wsX9_laysLabels (wsV RX9 333 RX9 yX9_farther wsX9_farther) := goodIn_app (goodIn_of _ (by decide +kernel)) ggX9_laysLabels_X9_farther
set_option maxRecDepth 20000 in
theorem ggX9_countedBy_X9_farther : GoodIn wsX9_countedBy wsX9_farther := goodIn_r _ [7, 8, 9, 10, 11, 12, 13, 14, 15, 16, 17, 6, 18, 19, 20, 21, 22, 23, 24, 25, 26, 27, 28, 29, 30, 31, 32, 33, 34, 35, 36, 37, 38, 39, 40, 41, 42, 43, 44, 45, 46, 47, 48, 49, 50, 51, 52, 53, 54, 55, 56, 57, 58, 59, 60, 61, 62, 63, 64, 65, 66, 67, 68] (by decide +kernel) (by decide +kernel)
set_option maxRecDepth 20000 in
theorem gX9_countedBy_X9_farther : GoodIn wsX9_countedBy (wsV RX9 333 RX9 yX9_farther wsX9_farther) := goodIn_app (goodIn_of _ (by decide +kernel)) ggX9_countedBy_X9_farther
set_option maxRecDepth 20000 in
theorem ggX9_shown_X9_isZoom : GoodIn wsX9_shown wsX9_isZoom := goodIn_r _ [7, 8, 9, 10, 11, 6, 12] (by decide +kernel) (by decide +kernel)
set_option maxRecDepth 20000 in
theorem gX9_shown_X9_isZoom : GoodIn wsX9_shown (wsV RX9 257 RX9 yX9_isZoom wsX9_isZoom) := goodIn_app (goodIn_of _ (by decide +kernel)) ggX9_shown_X9_isZoom
set_option maxRecDepth 20000 in
theorem ggX9_shown_X9_laysLabels : GoodIn wsX9_shown wsX9_laysLabels := goodIn_r _ [16, 17, 18, 19, 20, 2, 21, 22, 23, 24, 25, 6, 26, 27, 28, 29, 30, 31, 32, 33, 34, 35, 36, 37, 38, 39, 40, 41, 42, 43, 44, 45, 46, 47, 48, 49, 50, 51, 52, 53, 54, 55, 56, 57, 58, 59, 60, 61, 62, 63, 64, 65, 66, 67, 68, 69, 70, 71, 72, 73, 74, 75, 76, 77, 78, 79, 80, 81, 82, 83, 84, 85, 86, 87, 88, 89, 90, 91, 92, 93, 94, 95, 96, 97, 98, 99, 100, 101, 102, 103, 104, 105, 106, 107, 108, 109, 110, 111, 112, 113, 114, 115, 116] (by decide +kernel) (by decide +kernel)
set_option maxRecDepth 20000 in
theorem gX9_shown_X9_laysLabels : GoodIn wsX9_shown (wsV RX9 354 RX9 yX9_laysLabels wsX9_laysLabels) := goodIn_app (goodIn_of _ (by decide +kernel)) ggX9_shown_X9_laysLabels
set_option maxRecDepth 20000 in
theorem ggX9_label_X9_isZoom : GoodIn wsX9_label wsX9_isZoom := goodIn_r _ [11, 12, 13, 14, 15, 10, 16] (by decide +kernel) (by decide +kernel)
set_option maxRecDepth 20000 in
theorem gX9_label_X9_isZoom : GoodIn wsX9_label (wsV RX9 257 RX9 yX9_isZoom wsX9_isZoom) := goodIn_app (goodIn_of _ (by decide +kernel)) ggX9_label_X9_isZoom
set_option maxRecDepth 20000 in
theorem ggX9_label_X9_isIn : GoodIn wsX9_label wsX9_isIn := goodIn_r _ [16] (by decide +kernel) (by decide +kernel)
set_option maxRecDepth 20000 in
theorem gX9_label_X9_isIn : GoodIn wsX9_label (wsV RX9 101 RX9 yX9_isIn wsX9_isIn) := goodIn_app (goodIn_of _ (by decide +kernel)) ggX9_label_X9_isIn
set_option maxRecDepth 20000 in
theorem ggX9_label_X9_laysLabels : GoodIn wsX9_label wsX9_laysLabels := goodIn_r _ [20, 5, 21, 6, 22, 3, 4, 23, 24, 25, 26, 10, 27, 28, 29, 30, 31, 32, 33, 34, 35, 36, 37, 38, 39, 40, 41, 42, 43, 44, 45, 46, 47, 48, 49, 50, 51, 52, 53, 54, 55, 56, 57, 58, 59, 60, 61, 62, 63, 64, 65, 66, 67, 68, 69, 70, 71, 72, 73, 74, 75, 76, 77, 78, 79, 88, 89, 90, 91, 92, 93, 94, 95, 96, 97, 98, 99, 100, 101, 102, 103, 104, 105, 106, 107, 108, 109, 110, 111, 112, 113, 114, 115, 116, 117, 118, 119, 120, 121, 122, 123, 124, 125] (by decide +kernel) (by decide +kernel)
set_option maxRecDepth 20000 in
theorem gX9_label_X9_laysLabels : GoodIn wsX9_label (wsV RX9 354 RX9 yX9_laysLabels wsX9_laysLabels) := goodIn_app (goodIn_of _ (by decide +kernel)) ggX9_label_X9_laysLabels
set_option maxRecDepth 20000 in
theorem ggX9_label_X9_least : GoodIn wsX9_label wsX9_least := goodIn_r _ [57, 46, 47, 48, 10, 49] (by decide +kernel) (by decide +kernel)
set_option maxRecDepth 20000 in
theorem gX9_label_X9_least : GoodIn wsX9_label (wsV RX9 251 RX9 yX9_least wsX9_least) := goodIn_app (goodIn_of _ (by decide +kernel)) ggX9_label_X9_least
set_option maxRecDepth 20000 in
theorem ggX9_label_X9_numberOf : GoodIn wsX9_label wsX9_numberOf := goodIn_r _ [83, 22, 54, 55, 56, 10, 57, 46, 47, 48, 49, 50, 51, 52, 53, 88, 89, 90, 91, 92, 93, 94, 95, 96, 97, 98, 99, 100, 101, 102, 103, 104, 105, 106, 107, 108, 109, 110, 111, 112, 113, 114, 115, 116, 117, 118, 119, 120, 121, 122, 123, 124, 125] (by decide +kernel) (by decide +kernel)
set_option maxRecDepth 20000 in
theorem gX9_label_X9_numberOf : GoodIn wsX9_label (wsV RX9 266 RX9 yX9_numberOf wsX9_numberOf) := goodIn_app (goodIn_of _ (by decide +kernel)) ggX9_label_X9_numberOf
set_option maxRecDepth 20000 in
theorem ggX9_label_X9_countedBy : GoodIn wsX9_label wsX9_countedBy := goodIn_r _ [87, 3, 4, 63, 64, 65, 10, 66, 67, 68, 69, 70, 71, 72, 73, 74, 75, 76, 77, 21, 62, 78, 79, 46, 47, 48, 49, 58, 59, 60, 61, 88, 89, 90, 91, 92, 93, 94, 95, 96, 97, 98, 99, 100, 101, 102, 103, 104, 105, 106, 107, 108, 109, 110, 111, 112, 113, 114, 115, 116, 117, 118, 119, 120, 121, 122, 123, 124, 125] (by decide +kernel) (by decide +kernel)
set_option maxRecDepth 20000 in
theorem gX9_label_X9_countedBy : GoodIn wsX9_label (wsV RX9 357 RX9 yX9_countedBy wsX9_countedBy) := goodIn_app (goodIn_of _ (by decide +kernel)) ggX9_label_X9_countedBy
set_option maxRecDepth 20000 in
theorem ggX9_label_X9_weightOf : GoodIn wsX9_label wsX9_weightOf := goodIn_r _ [61, 21, 62, 46, 47, 48, 10, 49, 88, 89, 90, 91, 92, 93, 94, 95, 96, 97, 98, 99, 100, 101, 102, 103, 104, 105, 106, 107, 108, 109, 110, 111, 112, 113, 114, 115, 116, 117, 118, 119, 120, 121, 122, 123, 124, 125] (by decide +kernel) (by decide +kernel)
set_option maxRecDepth 20000 in
theorem gX9_label_X9_weightOf : GoodIn wsX9_label (wsV RX9 215 RX9 yX9_weightOf wsX9_weightOf) := goodIn_app (goodIn_of _ (by decide +kernel)) ggX9_label_X9_weightOf
set_option maxRecDepth 20000 in
theorem ggX9_counted_X9_groupSet : GoodIn wsX9_counted wsX9_groupSet := goodIn_r _ [7, 8, 9, 10, 11, 12, 6, 13, 14, 15, 16, 17, 18, 19, 20, 21, 22, 23, 24, 25, 26, 27, 28, 29, 30, 31, 32, 33, 34, 35, 36, 37, 38, 39, 40, 41, 42, 43, 44, 45, 46, 47, 48, 49, 50, 51, 52, 91, 92, 93, 94, 95, 96, 97, 98, 99, 100, 101, 102, 103, 104, 105, 106, 107, 108, 109, 110, 111, 112, 113, 114, 115, 116, 117, 118, 119, 120, 121, 122, 123, 124, 125, 126, 127, 128] (by decide +kernel) (by decide +kernel)
set_option maxRecDepth 20000 in
theorem gX9_counted_X9_groupSet : GoodIn wsX9_counted (wsV RX9 269 RX9 yX9_groupSet wsX9_groupSet) := goodIn_app (goodIn_of _ (by decide +kernel)) ggX9_counted_X9_groupSet
set_option maxRecDepth 20000 in
theorem ggX9_counted_X9_laysLabels : GoodIn wsX9_counted wsX9_laysLabels := goodIn_r _ [56, 57, 8, 58, 9, 59, 2, 60, 19, 20, 21, 6, 22, 23, 24, 25, 26, 27, 28, 29, 30, 31, 32, 33, 34, 35, 36, 37, 38, 39, 40, 41, 42, 43, 44, 45, 46, 47, 48, 49, 50, 51, 52, 61, 62, 63, 64, 65, 66, 67, 68, 69, 70, 71, 72, 73, 74, 75, 76, 77, 78, 79, 80, 81, 82, 91, 92, 93, 94, 95, 96, 97, 98, 99, 100, 101, 102, 103, 104, 105, 106, 107, 108, 109, 110, 111, 112, 113, 114, 115, 116, 117, 118, 119, 120, 121, 122, 123, 124, 125, 126, 127, 128] (by decide +kernel) (by decide +kernel)
set_option maxRecDepth 20000 in
theorem gX9_counted_X9_laysLabels : GoodIn wsX9_counted (wsV RX9 354 RX9 yX9_laysLabels wsX9_laysLabels) := goodIn_app (goodIn_of _ (by decide +kernel)) ggX9_counted_X9_laysLabels
set_option maxRecDepth 20000 in
theorem ggX9_counted_X9_countedBy : GoodIn wsX9_counted wsX9_countedBy := goodIn_r _ [86, 59, 2, 66, 67, 68, 6, 69, 70, 71, 72, 73, 74, 75, 76, 77, 78, 79, 80, 8, 65, 81, 82, 41, 42, 43, 44, 61, 62, 63, 64, 91, 92, 93, 94, 95, 96, 97, 98, 99, 100, 101, 102, 103, 104, 105, 106, 107, 108, 109, 110, 111, 112, 113, 114, 115, 116, 117, 118, 119, 120, 121, 122, 123, 124, 125, 126, 127, 128] (by decide +kernel) (by decide +kernel)
set_option maxRecDepth 20000 in
theorem gX9_counted_X9_countedBy : GoodIn wsX9_counted (wsV RX9 357 RX9 yX9_countedBy wsX9_countedBy) := goodIn_app (goodIn_of _ (by decide +kernel)) ggX9_counted_X9_countedBy
set_option maxRecDepth 20000 in
theorem ggX9_counted_X9_least : GoodIn wsX9_counted wsX9_least := goodIn_r _ [52, 41, 42, 43, 6, 44] (by decide +kernel) (by decide +kernel)
set_option maxRecDepth 20000 in
theorem gX9_counted_X9_least : GoodIn wsX9_counted (wsV RX9 251 RX9 yX9_least wsX9_least) := goodIn_app (goodIn_of _ (by decide +kernel)) ggX9_counted_X9_least
set_option maxRecDepth 20000 in
theorem ggX9_counted_X9_numberOf : GoodIn wsX9_counted wsX9_numberOf := goodIn_r _ [90, 9, 49, 50, 51, 6, 52, 41, 42, 43, 44, 45, 46, 47, 48, 91, 92, 93, 94, 95, 96, 97, 98, 99, 100, 101, 102, 103, 104, 105, 106, 107, 108, 109, 110, 111, 112, 113, 114, 115, 116, 117, 118, 119, 120, 121, 122, 123, 124, 125, 126, 127, 128] (by decide +kernel) (by decide +kernel)
set_option maxRecDepth 20000 in
theorem gX9_counted_X9_numberOf : GoodIn wsX9_counted (wsV RX9 266 RX9 yX9_numberOf wsX9_numberOf) := goodIn_app (goodIn_of _ (by decide +kernel)) ggX9_counted_X9_numberOf
set_option maxRecDepth 20000 in
theorem ggX9_goneOnes_X9_wasJoins : GoodIn wsX9_goneOnes wsX9_wasJoins := goodIn_r _ [7, 8, 32, 33, 34, 35, 36, 37, 38, 39, 40, 41, 42, 43, 44, 45, 46, 47, 48, 49, 50, 51, 52, 53, 54, 55, 56, 57, 58, 59, 60, 61, 62, 63, 64, 65, 66, 67, 68, 69] (by decide +kernel) (by decide +kernel)
set_option maxRecDepth 20000 in
theorem gX9_goneOnes_X9_wasJoins : GoodIn wsX9_goneOnes (wsV RX9 149 RX9 yX9_wasJoins wsX9_wasJoins) := goodIn_app (goodIn_of _ (by decide +kernel)) ggX9_goneOnes_X9_wasJoins
set_option maxRecDepth 20000 in
theorem ggX9_goneOnes_X9_isGone : GoodIn wsX9_goneOnes wsX9_isGone := goodIn_r _ [12, 13, 14, 15, 6, 16, 17, 18, 19, 20, 21, 22, 23, 24, 25, 26, 27, 28, 29, 30, 31, 32, 33, 34, 35, 36, 37, 38, 39, 40, 41, 42, 43, 44, 45, 46, 47, 48, 49, 50, 51, 52, 53, 54, 55, 56, 57, 58, 59, 60, 61, 62, 63, 64, 65, 66, 67, 68, 69] (by decide +kernel) (by decide +kernel)
set_option maxRecDepth 20000 in
theorem gX9_goneOnes_X9_isGone : GoodIn wsX9_goneOnes (wsV RX9 360 RX9 yX9_isGone wsX9_isGone) := goodIn_app (goodIn_of _ (by decide +kernel)) ggX9_goneOnes_X9_isGone
set_option maxRecDepth 20000 in
theorem ggX9_asTheyWere_X9_joins : GoodIn wsX9_asTheyWere wsX9_joins := goodIn_r _ [6, 7, 27, 28, 29, 30, 31, 32, 33, 34, 35, 36, 37, 38, 39, 40, 41, 42, 43, 44, 45, 46, 47, 48, 49, 50, 51, 52, 53, 54, 55, 56, 57, 58, 59, 60, 61, 62, 63, 64] (by decide +kernel) (by decide +kernel)
set_option maxRecDepth 20000 in
theorem gX9_asTheyWere_X9_joins : GoodIn wsX9_asTheyWere (wsV RX9 119 RX9 yX9_joins wsX9_joins) := goodIn_app (goodIn_of _ (by decide +kernel)) ggX9_asTheyWere_X9_joins
set_option maxRecDepth 20000 in
theorem ggX9_asTheyWere_X9_wasJoins : GoodIn wsX9_asTheyWere wsX9_wasJoins := goodIn_r _ [11, 12, 27, 28, 29, 30, 31, 32, 33, 34, 35, 36, 37, 38, 39, 40, 41, 42, 43, 44, 45, 46, 47, 48, 49, 50, 51, 52, 53, 54, 55, 56, 57, 58, 59, 60, 61, 62, 63, 64] (by decide +kernel) (by decide +kernel)
set_option maxRecDepth 20000 in
theorem gX9_asTheyWere_X9_wasJoins : GoodIn wsX9_asTheyWere (wsV RX9 149 RX9 yX9_wasJoins wsX9_wasJoins) := goodIn_app (goodIn_of _ (by decide +kernel)) ggX9_asTheyWere_X9_wasJoins
set_option maxRecDepth 20000 in
theorem ggX9_asTheyWere_X9_areSame : GoodIn wsX9_asTheyWere wsX9_areSame := goodIn_r _ [16, 17, 18, 19, 20, 21, 22, 23, 5, 24, 25, 26, 27, 28, 29, 30, 31, 32, 33, 34, 35, 36, 37, 38, 39, 40, 41, 42, 43, 44, 45, 46, 47, 48, 49, 50, 51, 52, 53, 54, 55, 56, 57, 58, 59, 60, 61, 62, 63, 64] (by decide +kernel) (by decide +kernel)
set_option maxRecDepth 20000 in
theorem gX9_asTheyWere_X9_areSame : GoodIn wsX9_asTheyWere (wsV RX9 152 RX9 yX9_areSame wsX9_areSame) := goodIn_app (goodIn_of _ (by decide +kernel)) ggX9_asTheyWere_X9_areSame
set_option maxRecDepth 20000 in
theorem ggX9_repaired_X9_newOnes : GoodIn wsX9_repaired wsX9_newOnes := goodIn_r _ [7, 8, 9, 10, 6, 11, 12, 13, 14, 15, 16, 17, 18, 19, 20, 21, 22, 23, 24, 25, 26, 27, 28, 29, 30, 31, 32, 33, 34, 35, 36, 50, 51, 52, 53, 54, 55, 56, 57, 58, 59, 60, 61, 62, 63, 64, 65, 66, 67, 68, 69, 70, 71, 72, 73, 74, 75, 76, 77, 78, 79, 80, 81, 82, 83, 84, 85, 86, 87] (by decide +kernel) (by decide +kernel)
set_option maxRecDepth 20000 in
theorem gX9_repaired_X9_newOnes : GoodIn wsX9_repaired (wsV RX9 179 RX9 yX9_newOnes wsX9_newOnes) := goodIn_app (goodIn_of _ (by decide +kernel)) ggX9_repaired_X9_newOnes
set_option maxRecDepth 20000 in
theorem ggX9_repaired_X9_goneOnes : GoodIn wsX9_repaired wsX9_goneOnes := goodIn_r _ [40, 17, 41, 18, 19, 20, 6, 21, 22, 42, 43, 44, 45, 8, 9, 10, 11, 12, 23, 24, 25, 26, 27, 28, 29, 30, 31, 32, 33, 34, 35, 36, 50, 51, 52, 53, 54, 55, 56, 57, 58, 59, 60, 61, 62, 63, 64, 65, 66, 67, 68, 69, 70, 71, 72, 73, 74, 75, 76, 77, 78, 79, 80, 81, 82, 83, 84, 85, 86, 87] (by decide +kernel) (by decide +kernel)
set_option maxRecDepth 20000 in
theorem gX9_repaired_X9_goneOnes : GoodIn wsX9_repaired (wsV RX9 363 RX9 yX9_goneOnes wsX9_goneOnes) := goodIn_app (goodIn_of _ (by decide +kernel)) ggX9_repaired_X9_goneOnes
set_option maxRecDepth 20000 in
theorem ggX9_repaired_X9_asTheyWere : GoodIn wsX9_repaired wsX9_asTheyWere := goodIn_r _ [49, 17, 8, 9, 10, 6, 11, 12, 18, 19, 20, 21, 22, 23, 24, 25, 26, 27, 28, 29, 30, 31, 32, 33, 34, 35, 36, 50, 51, 52, 53, 54, 55, 56, 57, 58, 59, 60, 61, 62, 63, 64, 65, 66, 67, 68, 69, 70, 71, 72, 73, 74, 75, 76, 77, 78, 79, 80, 81, 82, 83, 84, 85, 86, 87] (by decide +kernel) (by decide +kernel)
set_option maxRecDepth 20000 in
theorem gX9_repaired_X9_asTheyWere : GoodIn wsX9_repaired (wsV RX9 367 RX9 yX9_asTheyWere wsX9_asTheyWere) := goodIn_app (goodIn_of _ (by decide +kernel)) ggX9_repaired_X9_asTheyWere
set_option maxRecDepth 20000 in
theorem ggX9_repaired_X9_joins : GoodIn wsX9_repaired wsX9_joins := goodIn_r _ [11, 12, 50, 51, 52, 53, 54, 55, 56, 57, 58, 59, 60, 61, 62, 63, 64, 65, 66, 67, 68, 69, 70, 71, 72, 73, 74, 75, 76, 77, 78, 79, 80, 81, 82, 83, 84, 85, 86, 87] (by decide +kernel) (by decide +kernel)
set_option maxRecDepth 20000 in
theorem gX9_repaired_X9_joins : GoodIn wsX9_repaired (wsV RX9 119 RX9 yX9_joins wsX9_joins) := goodIn_app (goodIn_of _ (by decide +kernel)) ggX9_repaired_X9_joins
set_option maxRecDepth 20000 in
theorem ggX9_repaired_X9_isNew : GoodIn wsX9_repaired wsX9_isNew := goodIn_r _ [16, 17, 18, 19, 20, 6, 21, 22, 23, 24, 25, 26, 27, 28, 29, 30, 31, 32, 33, 34, 35, 36, 50, 51, 52, 53, 54, 55, 56, 57, 58, 59, 60, 61, 62, 63, 64, 65, 66, 67, 68, 69, 70, 71, 72, 73, 74, 75, 76, 77, 78, 79, 80, 81, 82, 83, 84, 85, 86, 87] (by decide +kernel) (by decide +kernel)
set_option maxRecDepth 20000 in
theorem gX9_repaired_X9_isNew : GoodIn wsX9_repaired (wsV RX9 155 RX9 yX9_isNew wsX9_isNew) := goodIn_app (goodIn_of _ (by decide +kernel)) ggX9_repaired_X9_isNew
set_option maxRecDepth 20000 in
theorem ggX9_allApart_X9_joins : GoodIn wsX9_allApart wsX9_joins := goodIn_r _ [6, 7, 8, 9, 10, 11, 12, 13, 14, 15, 16, 17, 18, 19, 20, 21, 22, 23, 24, 25, 26, 27, 28, 29, 30, 31, 32, 33, 34, 35, 36, 37, 38, 39, 40, 41, 42, 43, 44, 45] (by decide +kernel) (by decide +kernel)
set_option maxRecDepth 20000 in
theorem gX9_allApart_X9_joins : GoodIn wsX9_allApart (wsV RX9 119 RX9 yX9_joins wsX9_joins) := goodIn_app (goodIn_of _ (by decide +kernel)) ggX9_allApart_X9_joins
set_option maxRecDepth 20000 in
theorem ggX9_would_X9_canCome : GoodIn wsX9_would wsX9_canCome := goodIn_r _ [11, 12, 13, 14, 15, 16, 10, 17, 18, 19, 20, 21, 22, 23, 84, 85, 86, 87, 88, 89, 90, 91, 92, 93, 94, 95, 96, 97, 98, 99, 100, 101, 102, 103, 104, 105, 106, 107, 108, 109, 110, 111, 112, 113, 114, 115, 116, 117, 118, 119, 120, 121] (by decide +kernel) (by decide +kernel)
set_option maxRecDepth 20000 in
theorem gX9_would_X9_canCome : GoodIn wsX9_would (wsV RX9 164 RX9 yX9_canCome wsX9_canCome) := goodIn_app (goodIn_of _ (by decide +kernel)) ggX9_would_X9_canCome
set_option maxRecDepth 20000 in
theorem ggX9_would_X9_isIn : GoodIn wsX9_would wsX9_isIn := goodIn_r _ [17] (by decide +kernel) (by decide +kernel)
set_option maxRecDepth 20000 in
theorem gX9_would_X9_isIn : GoodIn wsX9_would (wsV RX9 101 RX9 yX9_isIn wsX9_isIn) := goodIn_app (goodIn_of _ (by decide +kernel)) ggX9_would_X9_isIn
set_option maxRecDepth 20000 in
theorem ggX9_would_X9_joins : GoodIn wsX9_would wsX9_joins := goodIn_r _ [27, 12, 84, 85, 86, 87, 88, 89, 90, 91, 92, 93, 94, 95, 96, 97, 98, 99, 100, 101, 102, 103, 104, 105, 106, 107, 108, 109, 110, 111, 112, 113, 114, 115, 116, 117, 118, 119, 120, 121] (by decide +kernel) (by decide +kernel)
set_option maxRecDepth 20000 in
theorem gX9_would_X9_joins : GoodIn wsX9_would (wsV RX9 119 RX9 yX9_joins wsX9_joins) := goodIn_app (goodIn_of _ (by decide +kernel)) ggX9_would_X9_joins
set_option maxRecDepth 20000 in
theorem ggX9_would_X9_allApart : GoodIn wsX9_would wsX9_allApart := goodIn_r _ [31, 32, 24, 25, 26, 10, 27, 12, 84, 85, 86, 87, 88, 89, 90, 91, 92, 93, 94, 95, 96, 97, 98, 99, 100, 101, 102, 103, 104, 105, 106, 107, 108, 109, 110, 111, 112, 113, 114, 115, 116, 117, 118, 119, 120, 121] (by decide +kernel) (by decide +kernel)
set_option maxRecDepth 20000 in
theorem gX9_would_X9_allApart : GoodIn wsX9_would (wsV RX9 371 RX9 yX9_allApart wsX9_allApart) := goodIn_app (goodIn_of _ (by decide +kernel)) ggX9_would_X9_allApart
set_option maxRecDepth 20000 in
theorem ggX9_would_X9_placeOf : GoodIn wsX9_would wsX9_placeOf := goodIn_r _ [36, 23, 22, 84, 85, 86, 87, 88, 89, 90, 91, 92, 93, 94, 95, 96, 97, 98, 99, 100, 101, 102, 103, 104, 105, 106, 107, 108, 109, 110, 111, 112, 113, 114, 115, 116, 117, 118, 119, 120, 121] (by decide +kernel) (by decide +kernel)
set_option maxRecDepth 20000 in
theorem gX9_would_X9_placeOf : GoodIn wsX9_would (wsV RX9 141 RX9 yX9_placeOf wsX9_placeOf) := goodIn_app (goodIn_of _ (by decide +kernel)) ggX9_would_X9_placeOf
set_option maxRecDepth 20000 in
theorem ggX9_would_X9_comes : GoodIn wsX9_would wsX9_comes := goodIn_r _ [40, 12, 22, 23, 41, 84, 85, 86, 87, 88, 89, 90, 91, 92, 93, 94, 95, 96, 97, 98, 99, 100, 101, 102, 103, 104, 105, 106, 107, 108, 109, 110, 111, 112, 113, 114, 115, 116, 117, 118, 119, 120, 121] (by decide +kernel) (by decide +kernel)
set_option maxRecDepth 20000 in
theorem gX9_would_X9_comes : GoodIn wsX9_would (wsV RX9 172 RX9 yX9_comes wsX9_comes) := goodIn_app (goodIn_of _ (by decide +kernel)) ggX9_would_X9_comes
set_option maxRecDepth 20000 in
theorem ggX9_would_X9_laysTree : GoodIn wsX9_would wsX9_laysTree := goodIn_r _ [45, 12, 4, 6, 46, 47, 48, 49, 50, 51, 52, 32, 24, 25, 26, 10, 27, 53, 54, 55, 56, 57, 58, 59, 60, 61, 62, 63, 64, 22, 23, 65, 66, 67, 68, 69, 70, 71, 72, 73, 74, 75, 76, 77, 78, 79, 84, 85, 86, 87, 88, 89, 90, 91, 92, 93, 94, 95, 96, 97, 98, 99, 100, 101, 102, 103, 104, 105, 106, 107, 108, 109, 110, 111, 112, 113, 114, 115, 116, 117, 118, 119, 120, 121] (by decide +kernel) (by decide +kernel)
set_option maxRecDepth 20000 in
theorem gX9_would_X9_laysTree : GoodIn wsX9_would (wsV RX9 176 RX9 yX9_laysTree wsX9_laysTree) := goodIn_app (goodIn_of _ (by decide +kernel)) ggX9_would_X9_laysTree
set_option maxRecDepth 20000 in
theorem ggX9_would_X9_pointAt : GoodIn wsX9_would wsX9_pointAt := goodIn_r _ [21, 12, 22, 23, 84, 85, 86, 87, 88, 89, 90, 91, 92, 93, 94, 95, 96, 97, 98, 99, 100, 101, 102, 103, 104, 105, 106, 107, 108, 109, 110, 111, 112, 113, 114, 115, 116, 117, 118, 119, 120, 121] (by decide +kernel) (by decide +kernel)
set_option maxRecDepth 20000 in
theorem gX9_would_X9_pointAt : GoodIn wsX9_would (wsV RX9 161 RX9 yX9_pointAt wsX9_pointAt) := goodIn_app (goodIn_of _ (by decide +kernel)) ggX9_would_X9_pointAt
set_option maxRecDepth 20000 in
theorem ggX9_would_X9_goes : GoodIn wsX9_would wsX9_goes := goodIn_r _ [83, 12, 22, 23, 41, 84, 85, 86, 87, 88, 89, 90, 91, 92, 93, 94, 95, 96, 97, 98, 99, 100, 101, 102, 103, 104, 105, 106, 107, 108, 109, 110, 111, 112, 113, 114, 115, 116, 117, 118, 119, 120, 121] (by decide +kernel) (by decide +kernel)
set_option maxRecDepth 20000 in
theorem gX9_would_X9_goes : GoodIn wsX9_would (wsV RX9 185 RX9 yX9_goes wsX9_goes) := goodIn_app (goodIn_of _ (by decide +kernel)) ggX9_would_X9_goes
set_option maxRecDepth 20000 in
theorem ggX9_laysWas_X9_wasJoins : GoodIn wsX9_laysWas wsX9_wasJoins := goodIn_r _ [11, 1, 16, 17, 18, 19, 20, 21, 22, 23, 24, 25, 26, 27, 28, 29, 30, 31, 32, 33, 34, 35, 36, 37, 38, 39, 40, 41, 42, 43, 44, 45, 46, 47, 48, 49, 50, 51, 52, 53] (by decide +kernel) (by decide +kernel)
set_option maxRecDepth 20000 in
theorem gX9_laysWas_X9_wasJoins : GoodIn wsX9_laysWas (wsV RX9 149 RX9 yX9_wasJoins wsX9_wasJoins) := goodIn_app (goodIn_of _ (by decide +kernel)) ggX9_laysWas_X9_wasJoins
set_option maxRecDepth 20000 in
theorem ggX9_laysWas_X9_radius : GoodIn wsX9_laysWas wsX9_radius := goodIn_r _ [15] (by decide +kernel) (by decide +kernel)
set_option maxRecDepth 20000 in
theorem gX9_laysWas_X9_radius : GoodIn wsX9_laysWas (wsV RX9 242 RX9 yX9_radius wsX9_radius) := goodIn_app (goodIn_of _ (by decide +kernel)) ggX9_laysWas_X9_radius
set_option maxRecDepth 20000 in
theorem ggX9_nowAt_X9_pointAt : GoodIn wsX9_nowAt wsX9_pointAt := goodIn_r _ [5, 6, 7, 8, 9, 10, 11, 12, 13, 14, 15, 16, 17, 18, 19, 20, 21, 22, 23, 24, 25, 26, 27, 28, 29, 30, 31, 32, 33, 34, 35, 36, 37, 38, 39, 40, 41, 42, 43, 44, 45, 46] (by decide +kernel) (by decide +kernel)
set_option maxRecDepth 20000 in
theorem gX9_nowAt_X9_pointAt : GoodIn wsX9_nowAt (wsV RX9 161 RX9 yX9_pointAt wsX9_pointAt) := goodIn_app (goodIn_of _ (by decide +kernel)) ggX9_nowAt_X9_pointAt
set_option maxRecDepth 20000 in
theorem ggX9_stirred_X9_isZoom : GoodIn wsX9_stirred wsX9_isZoom := goodIn_r _ [11, 12, 13, 14, 15, 10, 16] (by decide +kernel) (by decide +kernel)
set_option maxRecDepth 20000 in
theorem gX9_stirred_X9_isZoom : GoodIn wsX9_stirred (wsV RX9 257 RX9 yX9_isZoom wsX9_isZoom) := goodIn_app (goodIn_of _ (by decide +kernel)) ggX9_stirred_X9_isZoom
set_option maxRecDepth 20000 in
theorem ggX9_stirred_X9_laysWas : GoodIn wsX9_stirred wsX9_laysWas := goodIn_r _ [20, 3, 6, 21, 4, 22, 23, 24, 25, 26, 10, 27, 28, 29, 30, 31, 65, 66, 67, 68, 69, 70, 71, 72, 73, 74, 75, 76, 77, 78, 79, 80, 81, 82, 83, 84, 85, 86, 87, 88, 89, 90, 91, 92, 93, 94, 95, 96, 97, 98, 99, 100, 101, 102] (by decide +kernel) (by decide +kernel)
set_option maxRecDepth 20000 in
theorem gX9_stirred_X9_laysWas : GoodIn wsX9_stirred (wsV RX9 374 RX9 yX9_laysWas wsX9_laysWas) := goodIn_app (goodIn_of _ (by decide +kernel)) ggX9_stirred_X9_laysWas
set_option maxRecDepth 20000 in
theorem ggX9_stirred_X9_laysZoom : GoodIn wsX9_stirred wsX9_laysZoom := goodIn_r _ [35, 36, 37, 38, 10, 39, 40, 41, 42, 43, 44, 45, 28, 29, 30, 31, 46, 47, 48, 49, 5, 50, 51, 52, 53, 54, 65, 66, 67, 68, 69, 70, 71, 72, 73, 74, 75, 76, 77, 78, 79, 80, 81, 82, 83, 84, 85, 86, 87, 88, 89, 90, 91, 92, 93, 94, 95, 96, 97, 98, 99, 100, 101, 102] (by decide +kernel) (by decide +kernel)
set_option maxRecDepth 20000 in
theorem gX9_stirred_X9_laysZoom : GoodIn wsX9_stirred (wsV RX9 260 RX9 yX9_laysZoom wsX9_laysZoom) := goodIn_app (goodIn_of _ (by decide +kernel)) ggX9_stirred_X9_laysZoom
set_option maxRecDepth 20000 in
theorem ggX9_stirred_X9_nowAt : GoodIn wsX9_stirred wsX9_nowAt := goodIn_r _ [58, 59, 60, 61, 10, 62, 45, 63, 64, 65, 66, 67, 68, 69, 70, 71, 72, 73, 74, 75, 76, 77, 78, 79, 80, 81, 82, 83, 84, 85, 86, 87, 88, 89, 90, 91, 92, 93, 94, 95, 96, 97, 98, 99, 100, 101, 102] (by decide +kernel) (by decide +kernel)
set_option maxRecDepth 20000 in
theorem gX9_stirred_X9_nowAt : GoodIn wsX9_stirred (wsV RX9 377 RX9 yX9_nowAt wsX9_nowAt) := goodIn_app (goodIn_of _ (by decide +kernel)) ggX9_stirred_X9_nowAt
set_option maxRecDepth 20000 in
theorem ggX9_stirred_X9_has : GoodIn wsX9_stirred wsX9_has := goodIn_r _ [54] (by decide +kernel) (by decide +kernel)
set_option maxRecDepth 20000 in
theorem gX9_stirred_X9_has : GoodIn wsX9_stirred (wsV RX9 123 RX9 yX9_has wsX9_has) := goodIn_app (goodIn_of _ (by decide +kernel)) ggX9_stirred_X9_has
set_option maxRecDepth 20000 in
theorem ggX9_rootsOfAll_X9_joins : GoodIn wsX9_rootsOfAll wsX9_joins := goodIn_r _ [6, 7, 12, 13, 14, 15, 16, 17, 18, 19, 20, 21, 22, 23, 24, 25, 26, 27, 28, 29, 30, 31, 32, 33, 34, 35, 36, 37, 38, 39, 40, 41, 42, 43, 44, 45, 46, 47, 48, 49] (by decide +kernel) (by decide +kernel)
set_option maxRecDepth 20000 in
theorem gX9_rootsOfAll_X9_joins : GoodIn wsX9_rootsOfAll (wsV RX9 119 RX9 yX9_joins wsX9_joins) := goodIn_app (goodIn_of _ (by decide +kernel)) ggX9_rootsOfAll_X9_joins
set_option maxRecDepth 20000 in
theorem ggX9_rootsOfAll_X9_root : GoodIn wsX9_rootsOfAll wsX9_root := goodIn_r _ [11] (by decide +kernel) (by decide +kernel)
set_option maxRecDepth 20000 in
theorem gX9_rootsOfAll_X9_root : GoodIn wsX9_rootsOfAll (wsV RX9 218 RX9 yX9_root wsX9_root) := goodIn_app (goodIn_of _ (by decide +kernel)) ggX9_rootsOfAll_X9_root
set_option maxRecDepth 20000 in
theorem ggX9_mostLinks_X9_linksOf : GoodIn wsX9_mostLinks wsX9_linksOf := goodIn_r _ [10, 11, 12, 13, 14, 15, 9, 16, 1, 17, 18, 19, 20, 21, 22, 23, 24, 25, 26, 27, 28, 29, 30, 31, 32, 33, 34, 35, 36, 37, 38, 39, 40, 41, 42, 43, 44, 45, 46, 47, 48, 49, 50, 51, 52, 53, 54] (by decide +kernel) (by decide +kernel)
set_option maxRecDepth 20000 in
theorem gX9_mostLinks_X9_linksOf : GoodIn wsX9_mostLinks (wsV RX9 201 RX9 yX9_linksOf wsX9_linksOf) := goodIn_app (goodIn_of _ (by decide +kernel)) ggX9_mostLinks_X9_linksOf
set_option maxRecDepth 20000 in
theorem ggX9_groupsOfAll_X9_laysZoom : GoodIn wsX9_groupsOfAll wsX9_laysZoom := goodIn_r _ [5, 6, 7, 8, 4, 9, 10, 11, 12, 13, 14, 15, 16, 17, 18, 19, 20, 21, 22, 23, 24, 25, 26, 27, 28, 29, 42, 43, 44, 45, 46, 47, 48, 49, 50, 51, 52, 53, 54, 55, 56, 57, 58, 59, 60, 61, 62, 63, 64, 65, 66, 67, 68, 69, 70, 71, 72, 73, 74, 75, 76, 77, 78, 79] (by decide +kernel) (by decide +kernel)
set_option maxRecDepth 20000 in
theorem gX9_groupsOfAll_X9_laysZoom : GoodIn wsX9_groupsOfAll (wsV RX9 260 RX9 yX9_laysZoom wsX9_laysZoom) := goodIn_app (goodIn_of _ (by decide +kernel)) ggX9_groupsOfAll_X9_laysZoom
set_option maxRecDepth 20000 in
theorem ggX9_groupsOfAll_X9_partsNow : GoodIn wsX9_groupsOfAll wsX9_partsNow := goodIn_r _ [33, 15, 34, 35, 36, 4, 37, 24, 38, 39, 40, 41, 26, 27, 28, 29, 42, 43, 44, 45, 46, 47, 48, 49, 50, 51, 52, 53, 54, 55, 56, 57, 58, 59, 60, 61, 62, 63, 64, 65, 66, 67, 68, 69, 70, 71, 72, 73, 74, 75, 76, 77, 78, 79] (by decide +kernel) (by decide +kernel)
set_option maxRecDepth 20000 in
theorem gX9_groupsOfAll_X9_partsNow : GoodIn wsX9_groupsOfAll (wsV RX9 263 RX9 yX9_partsNow wsX9_partsNow) := goodIn_app (goodIn_of _ (by decide +kernel)) ggX9_groupsOfAll_X9_partsNow
set_option maxRecDepth 20000 in
theorem ggX9_look_X9_weightOf : GoodIn wsX9_look wsX9_weightOf := goodIn_r _ [9, 2, 10, 11, 12, 13, 8, 14, 90, 91, 92, 93, 94, 95, 96, 97, 98, 99, 100, 101, 102, 103, 104, 105, 106, 107, 108, 109, 110, 111, 112, 113, 114, 115, 116, 117, 118, 119, 120, 121, 122, 123, 124, 125, 126, 127] (by decide +kernel) (by decide +kernel)
set_option maxRecDepth 20000 in
theorem gX9_look_X9_weightOf : GoodIn wsX9_look (wsV RX9 215 RX9 yX9_weightOf wsX9_weightOf) := goodIn_app (goodIn_of _ (by decide +kernel)) ggX9_look_X9_weightOf
set_option maxRecDepth 20000 in
theorem ggX9_look_X9_allApart : GoodIn wsX9_look wsX9_allApart := goodIn_r _ [18, 19, 20, 21, 22, 8, 23, 2, 90, 91, 92, 93, 94, 95, 96, 97, 98, 99, 100, 101, 102, 103, 104, 105, 106, 107, 108, 109, 110, 111, 112, 113, 114, 115, 116, 117, 118, 119, 120, 121, 122, 123, 124, 125, 126, 127] (by decide +kernel) (by decide +kernel)
set_option maxRecDepth 20000 in
theorem gX9_look_X9_allApart : GoodIn wsX9_look (wsV RX9 371 RX9 yX9_allApart wsX9_allApart) := goodIn_app (goodIn_of _ (by decide +kernel)) ggX9_look_X9_allApart
set_option maxRecDepth 20000 in
theorem ggX9_look_X9_rootsOfAll : GoodIn wsX9_look wsX9_rootsOfAll := goodIn_r _ [27, 19, 20, 21, 22, 8, 23, 2, 28, 29, 30, 31, 90, 91, 92, 93, 94, 95, 96, 97, 98, 99, 100, 101, 102, 103, 104, 105, 106, 107, 108, 109, 110, 111, 112, 113, 114, 115, 116, 117, 118, 119, 120, 121, 122, 123, 124, 125, 126, 127] (by decide +kernel) (by decide +kernel)
set_option maxRecDepth 20000 in
theorem gX9_look_X9_rootsOfAll : GoodIn wsX9_look (wsV RX9 380 RX9 yX9_rootsOfAll wsX9_rootsOfAll) := goodIn_app (goodIn_of _ (by decide +kernel)) ggX9_look_X9_rootsOfAll
set_option maxRecDepth 20000 in
theorem ggX9_look_X9_widest : GoodIn wsX9_look wsX9_widest := goodIn_r _ [35, 2, 36, 37, 38, 39, 11, 12, 13, 8, 14, 40, 41, 42, 43, 44, 45, 90, 91, 92, 93, 94, 95, 96, 97, 98, 99, 100, 101, 102, 103, 104, 105, 106, 107, 108, 109, 110, 111, 112, 113, 114, 115, 116, 117, 118, 119, 120, 121, 122, 123, 124, 125, 126, 127] (by decide +kernel) (by decide +kernel)
set_option maxRecDepth 20000 in
theorem gX9_look_X9_widest : GoodIn wsX9_look (wsV RX9 289 RX9 yX9_widest wsX9_widest) := goodIn_app (goodIn_of _ (by decide +kernel)) ggX9_look_X9_widest
set_option maxRecDepth 20000 in
theorem ggX9_look_X9_mostLinks : GoodIn wsX9_look wsX9_mostLinks := goodIn_r _ [49, 2, 36, 37, 38, 39, 50, 51, 52, 8, 53, 54, 55, 20, 21, 22, 23, 90, 91, 92, 93, 94, 95, 96, 97, 98, 99, 100, 101, 102, 103, 104, 105, 106, 107, 108, 109, 110, 111, 112, 113, 114, 115, 116, 117, 118, 119, 120, 121, 122, 123, 124, 125, 126, 127] (by decide +kernel) (by decide +kernel)
set_option maxRecDepth 20000 in
theorem gX9_look_X9_mostLinks : GoodIn wsX9_look (wsV RX9 383 RX9 yX9_mostLinks wsX9_mostLinks) := goodIn_app (goodIn_of _ (by decide +kernel)) ggX9_look_X9_mostLinks
set_option maxRecDepth 20000 in
theorem ggX9_look_X9_groupsOfAll : GoodIn wsX9_look wsX9_groupsOfAll := goodIn_r _ [59, 60, 61, 62, 8, 63, 64, 65, 66, 67, 19, 20, 21, 22, 23, 2, 68, 69, 70, 71, 72, 73, 74, 75, 76, 77, 11, 12, 13, 14, 78, 79, 80, 81, 82, 83, 84, 85, 86, 87, 88, 89, 90, 91, 92, 93, 94, 95, 96, 97, 98, 99, 100, 101, 102, 103, 104, 105, 106, 107, 108, 109, 110, 111, 112, 113, 114, 115, 116, 117, 118, 119, 120, 121, 122, 123, 124, 125, 126, 127] (by decide +kernel) (by decide +kernel)
set_option maxRecDepth 20000 in
theorem gX9_look_X9_groupsOfAll : GoodIn wsX9_look (wsV RX9 386 RX9 yX9_groupsOfAll wsX9_groupsOfAll) := goodIn_app (goodIn_of _ (by decide +kernel)) ggX9_look_X9_groupsOfAll
set_option maxRecDepth 20000 in
theorem ggL_law_X8_init : GoodIn wsL_law wsX8_init := goodIn_r _ [8, 9, 10, 11, 12, 13, 14, 15, 16, 17, 18, 19, 20, 21, 22, 23, 24, 25, 26, 27, 28, 29, 30, 31, 32, 33, 34, 35, 36, 37, 38, 39, 40, 41, 42, 43, 44, 45, 46, 47, 48, 49, 50, 51, 52, 53, 54, 55, 56, 57, 58, 59, 60, 61, 62, 63, 64, 65, 66, 67, 68, 69, 70, 71, 72, 73, 74, 75, 76, 77, 78, 79, 80, 81, 82, 83, 84, 85, 86, 87, 88, 89, 90, 91, 92, 93, 94, 95, 96, 97, 98, 99, 100, 101, 102, 103, 104, 105, 106, 107, 108, 109, 110, 111, 112, 1256, 1257, 1258, 1259, 1260, 1261, 1262, 1263, 1264, 1265, 1266, 1267, 1268, 1269, 1270, 1206, 1207, 1208, 1209, 1210, 1211, 1212, 1213, 1214, 1215, 1216, 1217, 1271, 1272, 1273, 1274, 1275, 1276, 1277, 1278, 1279, 1280, 1281, 1282, 1283, 1284, 1285, 1286, 1287, 1288, 1289, 1290, 1291] (by decide +kernel) (by decide +kernel)
set_option maxRecDepth 20000 in
theorem gL_law_X8_init : GoodIn wsL_law (wsX8_init) := ggL_law_X8_init
set_option maxRecDepth 20000 in
theorem ggL_law_X9_init : GoodIn wsL_law wsX9_init := goodIn_r _ [115, 116, 10, 11, 39, 117, 118, 119, 120, 121, 122, 123, 124, 125, 126, 127, 128, 129, 130, 131, 132, 133, 134, 135, 136, 137, 138, 139, 140, 141, 142, 143, 144, 1218, 1219, 1220, 1221, 1222, 1223, 1224, 1225, 1226, 1227, 1228, 1229, 1230, 1231, 1232, 1233, 1234, 1235, 1236, 1237, 1238, 1239, 1240, 1241, 1242, 1243, 1244, 1245, 1246, 1247, 1248, 1249, 1250, 1251, 1252, 1253, 1254, 1255] (by decide +kernel) (by decide +kernel)
set_option maxRecDepth 20000 in
theorem gL_law_X9_init : GoodIn wsL_law (wsX9_init) := ggL_law_X9_init
set_option maxRecDepth 20000 in
theorem ggL_law_X8_add : GoodIn wsL_law wsX8_add := goodIn_r _ [148, 15, 149, 16, 150, 151, 2, 152, 153, 154, 155, 49, 156, 70, 157, 158, 159, 160, 71, 72, 161, 162, 163, 164, 165, 166, 167, 168, 73, 169, 170, 171, 172, 173, 174, 175, 176, 177, 178, 179, 14, 180, 50, 181, 65, 62, 51, 182, 183, 184, 185, 64, 186, 187, 188, 189, 190, 191, 192, 193, 194, 195, 196, 197, 198, 199, 200, 201, 202, 203, 204, 205, 206, 207, 208, 209, 210, 211, 212, 213, 214, 215, 216, 217, 218, 219, 53, 220, 221, 222, 223, 224, 54, 55, 56, 57, 63, 59, 60, 58, 61, 225, 226, 227, 228, 229, 230, 231, 232, 233, 234, 235, 236, 237, 238, 239, 240, 241, 242, 243, 244, 245, 246, 247, 248, 249, 250, 251, 252, 1206, 1207, 1208, 1209, 1210, 1211, 1212, 1213, 1214, 1215, 1216, 1217, 1256, 1257, 1258, 1259, 1260, 1261, 1262, 1263, 1264, 1265, 1266, 1267, 1268, 1269, 1270, 1288, 1289, 1290, 1291] (by decide +kernel) (by decide +kernel)
set_option maxRecDepth 20000 in
theorem gL_law_X8_add : GoodIn wsL_law (wsV RL 13 RX8 yX8_add wsX8_add) := goodIn_app (goodIn_of _ (by decide +kernel)) ggL_law_X8_add
set_option maxRecDepth 20000 in
theorem ggL_law_X9_add : GoodIn wsL_law wsX9_add := goodIn_r _ [256, 257, 258, 259, 260, 261, 5, 262, 263, 264, 265, 266, 267, 268, 269, 270, 271, 272, 117, 118, 273, 274, 275, 276, 277, 131, 132, 121, 133, 122, 134, 123, 278, 279, 280, 281, 282, 283, 284, 285, 286, 287, 288, 289, 290, 119, 291, 292, 293, 294, 295, 195, 188, 196, 296, 198, 199, 297, 298, 299, 300, 301, 302, 303, 304, 305, 306, 307, 308, 309, 310, 311, 312, 129, 130, 128, 127, 125, 126, 124, 313, 314, 315, 316, 317, 318, 319, 320, 321, 322, 323, 324, 325, 326, 327, 328, 329, 330, 331, 332, 1218, 1219, 1220, 1221, 1222, 1223, 1224, 1225, 1226, 1227, 1228, 1229, 1230, 1231, 1232, 1233, 1234, 1235, 1236, 1237, 1238, 1239, 1240, 1241, 1242, 1243, 1244, 1245, 1246, 1247, 1248, 1249, 1250, 1251, 1252, 1253, 1254, 1255] (by decide +kernel) (by decide +kernel)
set_option maxRecDepth 20000 in
theorem gL_law_X9_add : GoodIn wsL_law (wsV RL 17 RX9 yX9_add wsX9_add) := goodIn_app (goodIn_of _ (by decide +kernel)) ggL_law_X9_add
set_option maxRecDepth 20000 in
theorem ggL_law_X8_take : GoodIn wsL_law wsX8_take := goodIn_r _ [336, 15, 149, 16, 337, 338, 339, 2, 340, 341, 161, 162, 163, 164, 165, 166, 167, 49, 168, 70, 71, 72, 73, 342, 343, 344, 345, 173, 174, 175, 176, 177, 178, 179, 14, 180, 50, 181, 65, 62, 51, 182, 183, 184, 185, 64, 186, 187, 188, 189, 190, 191, 192, 193, 194, 195, 196, 197, 198, 199, 200, 201, 202, 203, 204, 205, 206, 207, 208, 209, 210, 211, 212, 213, 214, 215, 216, 217, 218, 219, 53, 220, 221, 222, 223, 224, 54, 55, 56, 57, 63, 59, 60, 58, 61, 225, 226, 227, 228, 229, 230, 231, 232, 233, 234, 235, 236, 237, 238, 239, 240, 241, 242, 243, 244, 245, 246, 247, 248, 249, 250, 251, 252, 1206, 1207, 1208, 1209, 1210, 1211, 1212, 1213, 1214, 1215, 1216, 1217, 1256, 1257, 1258, 1259, 1260, 1261, 1262, 1263, 1264, 1265, 1266, 1267, 1268, 1269, 1270, 1288, 1289, 1290, 1291] (by decide +kernel) (by decide +kernel)
set_option maxRecDepth 20000 in
theorem gL_law_X8_take : GoodIn wsL_law (wsV RL 18 RX8 yX8_take wsX8_take) := goodIn_app (goodIn_of _ (by decide +kernel)) ggL_law_X8_take
set_option maxRecDepth 20000 in
theorem ggL_law_X9_take : GoodIn wsL_law wsX9_take := goodIn_r _ [349, 257, 350, 351, 352, 5, 353, 263, 265, 266, 267, 268, 273, 274, 275, 276, 277, 131, 132, 121, 133, 122, 134, 123, 278, 279, 280, 281, 282, 118, 117, 283, 284, 285, 286, 354, 355, 356, 357, 119, 291, 292, 293, 294, 295, 195, 188, 196, 296, 198, 199, 297, 298, 299, 300, 301, 302, 303, 304, 305, 306, 307, 308, 309, 310, 311, 312, 129, 130, 128, 127, 125, 126, 124, 313, 314, 315, 316, 317, 318, 319, 320, 321, 322, 323, 324, 325, 326, 327, 328, 329, 330, 331, 332, 1218, 1219, 1220, 1221, 1222, 1223, 1224, 1225, 1226, 1227, 1228, 1229, 1230, 1231, 1232, 1233, 1234, 1235, 1236, 1237, 1238, 1239, 1240, 1241, 1242, 1243, 1244, 1245, 1246, 1247, 1248, 1249, 1250, 1251, 1252, 1253, 1254, 1255] (by decide +kernel) (by decide +kernel)
set_option maxRecDepth 20000 in
theorem gL_law_X9_take : GoodIn wsL_law (wsV RL 22 RX9 yX9_take wsX9_take) := goodIn_app (goodIn_of _ (by decide +kernel)) ggL_law_X9_take
set_option maxRecDepth 20000 in
theorem ggL_law_X8_weigh : GoodIn wsL_law wsX8_weigh := goodIn_r _ [361, 15, 149, 362, 337, 338, 339, 2, 340, 341, 150, 151, 152, 1206, 1207, 1208, 1209, 1210, 1211, 1212, 1213, 1214, 1215, 1216, 1217, 1256, 1257, 1258, 1259, 1260, 1261, 1262, 1263, 1264, 1265, 1266, 1267, 1268, 1269, 1270, 1288, 1289, 1290, 1291] (by decide +kernel) (by decide +kernel)
set_option maxRecDepth 20000 in
theorem gL_law_X8_weigh : GoodIn wsL_law (wsV RL 23 RX8 yX8_weigh wsX8_weigh) := goodIn_app (goodIn_of _ (by decide +kernel)) ggL_law_X8_weigh
set_option maxRecDepth 20000 in
theorem ggL_law_X9_weigh : GoodIn wsL_law wsX9_weigh := goodIn_r _ [366, 257, 258, 119, 350, 351, 352, 5, 353, 263, 265, 266, 267, 268, 1218, 1219, 1220, 1221, 1222, 1223, 1224, 1225, 1226, 1227, 1228, 1229, 1230, 1231, 1232, 1233, 1234, 1235, 1236, 1237, 1238, 1239, 1240, 1241, 1242, 1243, 1244, 1245, 1246, 1247, 1248, 1249, 1250, 1251, 1252, 1253, 1254, 1255] (by decide +kernel) (by decide +kernel)
set_option maxRecDepth 20000 in
theorem gL_law_X9_weigh : GoodIn wsL_law (wsV RL 27 RX9 yX9_weigh wsX9_weigh) := goodIn_app (goodIn_of _ (by decide +kernel)) ggL_law_X9_weigh
set_option maxRecDepth 20000 in
theorem ggL_law_X8_scatter : GoodIn wsL_law wsX8_scatter := goodIn_r _ [370, 15, 149, 161, 162, 163, 2, 164, 16, 165, 166, 167, 49, 168, 70, 71, 72, 73, 371, 372, 373, 374, 375, 42, 376, 153, 154, 155, 156, 157, 158, 159, 160, 169, 170, 171, 172, 173, 174, 175, 176, 177, 178, 179, 14, 180, 50, 181, 65, 62, 51, 182, 183, 184, 185, 64, 186, 187, 188, 189, 190, 191, 192, 193, 194, 195, 196, 197, 198, 199, 200, 201, 202, 203, 204, 205, 206, 207, 208, 209, 210, 211, 212, 213, 214, 215, 216, 217, 218, 219, 53, 220, 221, 222, 223, 224, 54, 55, 56, 57, 63, 59, 60, 58, 61, 225, 226, 227, 228, 229, 230, 231, 232, 233, 234, 235, 236, 237, 238, 239, 240, 241, 242, 243, 244, 1206, 1207, 1208, 1209, 1210, 1211, 1212, 1213, 1214, 1215, 1216, 1217, 1256, 1257, 1258, 1259, 1260, 1261, 1262, 1263, 1264, 1265, 1266, 1267, 1268, 1269, 1270, 1288, 1289, 1290, 1291] (by decide +kernel) (by decide +kernel)
set_option maxRecDepth 20000 in
theorem gL_law_X8_scatter : GoodIn wsL_law (wsV RL 28 RX8 yX8_scatter wsX8_scatter) := goodIn_app (goodIn_of _ (by decide +kernel)) ggL_law_X8_scatter
set_option maxRecDepth 20000 in
theorem ggL_law_X9_scatter : GoodIn wsL_law wsX9_scatter := goodIn_r _ [380, 257, 381, 265, 266, 267, 5, 268, 273, 274, 275, 276, 263, 277, 131, 132, 121, 133, 122, 134, 123, 278, 279, 280, 281, 282, 118, 117, 283, 284, 285, 286, 382, 383, 384, 385, 386, 387, 388, 259, 260, 261, 262, 264, 269, 270, 271, 272, 287, 288, 289, 290, 119, 291, 292, 293, 294, 295, 195, 188, 196, 296, 198, 199, 297, 298, 299, 300, 301, 302, 303, 304, 305, 306, 307, 308, 309, 310, 311, 312, 129, 130, 128, 127, 125, 126, 124, 313, 314, 315, 316, 1218, 1219, 1220, 1221, 1222, 1223, 1224, 1225, 1226, 1227, 1228, 1229, 1230, 1231, 1232, 1233, 1234, 1235, 1236, 1237, 1238, 1239, 1240, 1241, 1242, 1243, 1244, 1245, 1246, 1247, 1248, 1249, 1250, 1251, 1252, 1253, 1254, 1255] (by decide +kernel) (by decide +kernel)
set_option maxRecDepth 20000 in
theorem gL_law_X9_scatter : GoodIn wsL_law (wsV RL 31 RX9 yX9_scatter wsX9_scatter) := goodIn_app (goodIn_of _ (by decide +kernel)) ggL_law_X9_scatter
set_option maxRecDepth 20000 in
theorem ggL_law_X8_state : GoodIn wsL_law wsX8_state := goodIn_r _ [392, 42, 1206, 1207, 1208, 1209, 1210, 1211, 1212, 1213, 1214, 1215, 1216, 1217] (by decide +kernel) (by decide +kernel)
set_option maxRecDepth 20000 in
theorem gL_law_X8_state : GoodIn wsL_law (wsV RL 32 RX8 yX8_state wsX8_state) := goodIn_app (goodIn_of _ (by decide +kernel)) ggL_law_X8_state
set_option maxRecDepth 20000 in
theorem ggL_law_X9_state : GoodIn wsL_law wsX9_state := goodIn_r _ [396, 257, 387, 1218, 1219, 1220, 1221, 1222, 1223, 1224, 1225, 1226, 1227, 1228, 1229, 1230, 1231, 1232, 1233, 1234, 1235, 1236, 1237, 1238, 1239, 1240, 1241, 1242, 1243, 1244, 1245, 1246, 1247, 1248, 1249, 1250, 1251, 1252, 1253, 1254, 1255] (by decide +kernel) (by decide +kernel)
set_option maxRecDepth 20000 in
theorem gL_law_X9_state : GoodIn wsL_law (wsV RL 35 RX9 yX9_state wsX9_state) := goodIn_app (goodIn_of _ (by decide +kernel)) ggL_law_X9_state
set_option maxRecDepth 20000 in
theorem ggL_law_X8_clear : GoodIn wsL_law wsX8_clear := goodIn_r _ [400, 15, 149, 341, 161, 162, 163, 2, 164, 16, 165, 166, 167, 49, 168, 70, 71, 72, 73, 177, 178, 179, 14, 180, 50, 181, 65, 62, 51, 182, 183, 184, 185, 64, 186, 187, 188, 189, 190, 191, 192, 193, 194, 195, 196, 197, 198, 199, 200, 201, 202, 203, 204, 205, 206, 207, 208, 209, 210, 211, 212, 213, 214, 215, 216, 217, 218, 219, 53, 220, 221, 222, 223, 224, 54, 55, 56, 57, 63, 59, 60, 58, 61, 225, 226, 227, 228, 229, 230, 231, 232, 233, 234, 235, 236, 237, 238, 239, 240, 241, 242, 243, 244, 1206, 1207, 1208, 1209, 1210, 1211, 1212, 1213, 1214, 1215, 1216, 1217, 1256, 1257, 1258, 1259, 1260, 1261, 1262, 1263, 1264, 1265, 1266, 1267, 1268, 1269, 1270, 1288, 1289, 1290, 1291] (by decide +kernel) (by decide +kernel)
set_option maxRecDepth 20000 in
theorem gL_law_X8_clear : GoodIn wsL_law (wsV RL 36 RX8 yX8_clear wsX8_clear) := goodIn_app (goodIn_of _ (by decide +kernel)) ggL_law_X8_clear
set_option maxRecDepth 20000 in
theorem ggL_law_X9_clear : GoodIn wsL_law wsX9_clear := goodIn_r _ [404, 257, 263, 273, 274, 275, 5, 276, 277, 131, 132, 121, 133, 122, 134, 123, 278, 279, 280, 281, 282, 118, 117, 283, 284, 285, 286, 1218, 1219, 1220, 1221, 1222, 1223, 1224, 1225, 1226, 1227, 1228, 1229, 1230, 1231, 1232, 1233, 1234, 1235, 1236, 1237, 1238, 1239, 1240, 1241, 1242, 1243, 1244, 1245, 1246, 1247, 1248, 1249, 1250, 1251, 1252, 1253, 1254, 1255] (by decide +kernel) (by decide +kernel)
set_option maxRecDepth 20000 in
theorem gL_law_X9_clear : GoodIn wsL_law (wsV RL 40 RX9 yX9_clear wsX9_clear) := goodIn_app (goodIn_of _ (by decide +kernel)) ggL_law_X9_clear
set_option maxRecDepth 20000 in
theorem ggL_law_X8_size : GoodIn wsL_law wsX8_size := goodIn_r _ [408, 41, 1206, 1207, 1208, 1209, 1210, 1211, 1212, 1213, 1214, 1215, 1216, 1217] (by decide +kernel) (by decide +kernel)
set_option maxRecDepth 20000 in
theorem gL_law_X8_size : GoodIn wsL_law (wsV RL 41 RX8 yX8_size wsX8_size) := goodIn_app (goodIn_of _ (by decide +kernel)) ggL_law_X8_size
set_option maxRecDepth 20000 in
theorem ggL_law_X9_size : GoodIn wsL_law wsX9_size := goodIn_r _ [412, 257, 413, 120, 265, 266, 267, 5, 268, 1218, 1219, 1220, 1221, 1222, 1223, 1224, 1225, 1226, 1227, 1228, 1229, 1230, 1231, 1232, 1233, 1234, 1235, 1236, 1237, 1238, 1239, 1240, 1241, 1242, 1243, 1244, 1245, 1246, 1247, 1248, 1249, 1250, 1251, 1252, 1253, 1254, 1255] (by decide +kernel) (by decide +kernel)
set_option maxRecDepth 20000 in
theorem gL_law_X9_size : GoodIn wsL_law (wsV RL 44 RX9 yX9_size wsX9_size) := goodIn_app (goodIn_of _ (by decide +kernel)) ggL_law_X9_size
set_option maxRecDepth 20000 in
theorem ggL_law_X8_point : GoodIn wsL_law wsX8_point := goodIn_r _ [417, 15, 149, 418, 419, 362, 337, 338, 339, 2, 340, 341, 420, 421, 422, 49, 423, 70, 424, 201, 202, 203, 71, 72, 204, 205, 206, 207, 425, 426, 427, 428, 429, 430, 431, 432, 14, 433, 51, 56, 57, 1206, 1207, 1208, 1209, 1210, 1211, 1212, 1213, 1214, 1215, 1216, 1217, 1256, 1257, 1258, 1259, 1260, 1261, 1262, 1263, 1264, 1265, 1266, 1267, 1268, 1269, 1270, 1288, 1289, 1290, 1291] (by decide +kernel) (by decide +kernel)
set_option maxRecDepth 20000 in
theorem gL_law_X8_point : GoodIn wsL_law (wsV RL 45 RX8 yX8_point wsX8_point) := goodIn_app (goodIn_of _ (by decide +kernel)) ggL_law_X8_point
set_option maxRecDepth 20000 in
theorem ggL_law_X9_point : GoodIn wsL_law wsX9_point := goodIn_r _ [437, 257, 117, 118, 119, 350, 351, 352, 5, 353, 263, 265, 266, 267, 268, 438, 439, 440, 441, 121, 122, 283, 284, 285, 286, 442, 443, 444, 445, 301, 302, 303, 304, 295, 195, 188, 196, 296, 198, 199, 305, 306, 307, 308, 1218, 1219, 1220, 1221, 1222, 1223, 1224, 1225, 1226, 1227, 1228, 1229, 1230, 1231, 1232, 1233, 1234, 1235, 1236, 1237, 1238, 1239, 1240, 1241, 1242, 1243, 1244, 1245, 1246, 1247, 1248, 1249, 1250, 1251, 1252, 1253, 1254, 1255] (by decide +kernel) (by decide +kernel)
set_option maxRecDepth 20000 in
theorem gL_law_X9_point : GoodIn wsL_law (wsV RL 48 RX9 yX9_point wsX9_point) := goodIn_app (goodIn_of _ (by decide +kernel)) ggL_law_X9_point
set_option maxRecDepth 20000 in
theorem ggL_law_X8_at : GoodIn wsL_law wsX8_at := goodIn_r _ [449, 15, 149, 450, 158, 159, 49, 160, 70, 71, 72, 1206, 1207, 1208, 1209, 1210, 1211, 1212, 1213, 1214, 1215, 1216, 1217, 1256, 1257, 1258, 1259, 1260, 1261, 1262, 1263, 1264, 1265, 1266, 1267, 1268, 1269, 1270, 1288, 1289, 1290, 1291] (by decide +kernel) (by decide +kernel)
set_option maxRecDepth 20000 in
theorem gL_law_X8_at : GoodIn wsL_law (wsV RL 49 RX8 yX8_at wsX8_at) := goodIn_app (goodIn_of _ (by decide +kernel)) ggL_law_X8_at
set_option maxRecDepth 20000 in
theorem ggL_law_X9_at : GoodIn wsL_law wsX9_at := goodIn_r _ [454, 257, 269, 270, 271, 5, 272, 263, 117, 118, 1218, 1219, 1220, 1221, 1222, 1223, 1224, 1225, 1226, 1227, 1228, 1229, 1230, 1231, 1232, 1233, 1234, 1235, 1236, 1237, 1238, 1239, 1240, 1241, 1242, 1243, 1244, 1245, 1246, 1247, 1248, 1249, 1250, 1251, 1252, 1253, 1254, 1255] (by decide +kernel) (by decide +kernel)
set_option maxRecDepth 20000 in
theorem gL_law_X9_at : GoodIn wsL_law (wsV RL 52 RX9 yX9_at wsX9_at) := goodIn_app (goodIn_of _ (by decide +kernel)) ggL_law_X9_at
set_option maxRecDepth 20000 in
theorem ggL_law_X8_near : GoodIn wsL_law wsX8_near := goodIn_r _ [458, 15, 149, 341, 40, 459, 460, 2, 461, 462, 205, 206, 49, 207, 71, 72, 463, 464, 465, 466, 1206, 1207, 1208, 1209, 1210, 1211, 1212, 1213, 1214, 1215, 1216, 1217, 1256, 1257, 1258, 1259, 1260, 1261, 1262, 1263, 1264, 1265, 1266, 1267, 1268, 1269, 1270, 1288, 1289, 1290, 1291] (by decide +kernel) (by decide +kernel)
set_option maxRecDepth 20000 in
theorem gL_law_X8_near : GoodIn wsL_law (wsV RL 53 RX8 yX8_near wsX8_near) := goodIn_app (goodIn_of _ (by decide +kernel)) ggL_law_X8_near
set_option maxRecDepth 20000 in
theorem ggL_law_X9_near : GoodIn wsL_law wsX9_near := goodIn_r _ [470, 257, 471, 472, 263, 265, 266, 267, 5, 268, 473, 474, 475, 476, 117, 118, 1218, 1219, 1220, 1221, 1222, 1223, 1224, 1225, 1226, 1227, 1228, 1229, 1230, 1231, 1232, 1233, 1234, 1235, 1236, 1237, 1238, 1239, 1240, 1241, 1242, 1243, 1244, 1245, 1246, 1247, 1248, 1249, 1250, 1251, 1252, 1253, 1254, 1255] (by decide +kernel) (by decide +kernel)
set_option maxRecDepth 20000 in
theorem gL_law_X9_near : GoodIn wsL_law (wsV RL 56 RX9 yX9_near wsX9_near) := goodIn_app (goodIn_of _ (by decide +kernel)) ggL_law_X9_near
set_option maxRecDepth 20000 in
theorem ggL_law_X8_join : GoodIn wsL_law wsX8_join := goodIn_r _ [480, 15, 481, 482, 483, 484, 485, 149, 486, 487, 488, 16, 489, 490, 491, 492, 493, 494, 495, 496, 497, 498, 499, 49, 500, 70, 73, 501, 213, 214, 215, 502, 503, 504, 14, 505, 58, 55, 61, 62, 238, 239, 240, 506, 507, 508, 509, 51, 50, 510, 511, 250, 251, 252, 63, 1206, 1207, 1208, 1209, 1210, 1211, 1212, 1213, 1214, 1215, 1216, 1217, 1256, 1257, 1258, 1259, 1260, 1261, 1262, 1263, 1264, 1265, 1266, 1267, 1268, 1269, 1270, 1288, 1289, 1290, 1291] (by decide +kernel) (by decide +kernel)
set_option maxRecDepth 20000 in
theorem gL_law_X8_join : GoodIn wsL_law (wsV RL 57 RX8 yX8_join wsX8_join) := goodIn_app (goodIn_of _ (by decide +kernel)) ggL_law_X8_join
set_option maxRecDepth 20000 in
theorem ggL_law_X9_join : GoodIn wsL_law wsX9_join := goodIn_r _ [515, 257, 123, 121, 122, 124, 125, 126, 127, 516, 517, 518, 5, 519, 283, 284, 285, 286, 263, 265, 266, 267, 268, 520, 521, 522, 523, 297, 298, 299, 300, 524, 525, 526, 527, 119, 528, 529, 530, 531, 128, 532, 533, 534, 535, 321, 322, 323, 324, 278, 325, 326, 327, 328, 277, 329, 330, 331, 332, 132, 133, 279, 280, 281, 282, 118, 117, 1218, 1219, 1220, 1221, 1222, 1223, 1224, 1225, 1226, 1227, 1228, 1229, 1230, 1231, 1232, 1233, 1234, 1235, 1236, 1237, 1238, 1239, 1240, 1241, 1242, 1243, 1244, 1245, 1246, 1247, 1248, 1249, 1250, 1251, 1252, 1253, 1254, 1255] (by decide +kernel) (by decide +kernel)
set_option maxRecDepth 20000 in
theorem gL_law_X9_join : GoodIn wsL_law (wsV RL 60 RX9 yX9_join wsX9_join) := goodIn_app (goodIn_of _ (by decide +kernel)) ggL_law_X9_join
set_option maxRecDepth 20000 in
theorem ggL_law_X8_meets : GoodIn wsL_law wsX8_meets := goodIn_r _ [539, 15, 337, 338, 339, 2, 340, 149, 341, 540, 541, 542, 14, 543, 51, 58, 212, 213, 214, 215, 1206, 1207, 1208, 1209, 1210, 1211, 1212, 1213, 1214, 1215, 1216, 1217, 1256, 1257, 1258, 1259, 1260, 1261, 1262, 1263, 1264, 1265, 1266, 1267, 1268, 1269, 1270, 1288, 1289, 1290, 1291] (by decide +kernel) (by decide +kernel)
set_option maxRecDepth 20000 in
theorem gL_law_X8_meets : GoodIn wsL_law (wsV RL 61 RX8 yX8_meets wsX8_meets) := goodIn_app (goodIn_of _ (by decide +kernel)) ggL_law_X8_meets
set_option maxRecDepth 20000 in
theorem ggL_law_X9_meets : GoodIn wsL_law wsX9_meets := goodIn_r _ [547, 257, 124, 350, 351, 352, 5, 353, 263, 265, 266, 267, 268, 297, 298, 299, 300, 1218, 1219, 1220, 1221, 1222, 1223, 1224, 1225, 1226, 1227, 1228, 1229, 1230, 1231, 1232, 1233, 1234, 1235, 1236, 1237, 1238, 1239, 1240, 1241, 1242, 1243, 1244, 1245, 1246, 1247, 1248, 1249, 1250, 1251, 1252, 1253, 1254, 1255] (by decide +kernel) (by decide +kernel)
set_option maxRecDepth 20000 in
theorem gL_law_X9_meets : GoodIn wsL_law (wsV RL 64 RX9 yX9_meets wsX9_meets) := goodIn_app (goodIn_of _ (by decide +kernel)) ggL_law_X9_meets
set_option maxRecDepth 20000 in
theorem ggL_law_X8_path : GoodIn wsL_law wsX8_path := goodIn_r _ [551, 34, 15, 552, 149, 341, 337, 338, 339, 2, 340, 553, 554, 555, 33, 556, 557, 558, 102, 559, 560, 561, 562, 563, 564, 565, 566, 567, 568, 569, 235, 236, 14, 237, 58, 238, 239, 240, 570, 213, 214, 215, 1206, 1207, 1208, 1209, 1210, 1211, 1212, 1213, 1214, 1215, 1216, 1217, 1282, 1256, 1257, 1258, 1259, 1260, 1261, 1262, 1263, 1264, 1265, 1266, 1267, 1268, 1269, 1270, 1288, 1289, 1290, 1291] (by decide +kernel) (by decide +kernel)
set_option maxRecDepth 20000 in
theorem gL_law_X8_path : GoodIn wsL_law (wsV RL 65 RX8 yX8_path wsX8_path) := goodIn_app (goodIn_of _ (by decide +kernel)) ggL_law_X8_path
set_option maxRecDepth 20000 in
theorem ggL_law_X9_path : GoodIn wsL_law wsX9_path := goodIn_r _ [574, 257, 575, 135, 350, 351, 352, 5, 353, 263, 265, 266, 267, 268, 576, 577, 578, 579, 121, 122, 283, 284, 285, 286, 1218, 1219, 1220, 1221, 1222, 1223, 1224, 1225, 1226, 1227, 1228, 1229, 1230, 1231, 1232, 1233, 1234, 1235, 1236, 1237, 1238, 1239, 1240, 1241, 1242, 1243, 1244, 1245, 1246, 1247, 1248, 1249, 1250, 1251, 1252, 1253, 1254, 1255] (by decide +kernel) (by decide +kernel)
set_option maxRecDepth 20000 in
theorem gL_law_X9_path : GoodIn wsL_law (wsV RL 68 RX9 yX9_path wsX9_path) := goodIn_app (goodIn_of _ (by decide +kernel)) ggL_law_X9_path
set_option maxRecDepth 20000 in
theorem ggL_law_X8_longest : GoodIn wsL_law wsX8_longest := goodIn_r _ [583, 15, 149, 341, 34, 552, 553, 554, 555, 33, 556, 557, 558, 102, 559, 560, 561, 562, 563, 564, 565, 566, 567, 568, 569, 235, 236, 14, 237, 58, 238, 239, 240, 570, 213, 214, 215, 1206, 1207, 1208, 1209, 1210, 1211, 1212, 1213, 1214, 1215, 1216, 1217, 1256, 1257, 1258, 1259, 1260, 1261, 1262, 1263, 1264, 1265, 1266, 1267, 1268, 1269, 1270, 1288, 1289, 1290, 1291, 1282] (by decide +kernel) (by decide +kernel)
set_option maxRecDepth 20000 in
theorem gL_law_X8_longest : GoodIn wsL_law (wsV RL 69 RX8 yX8_longest wsX8_longest) := goodIn_app (goodIn_of _ (by decide +kernel)) ggL_law_X8_longest
set_option maxRecDepth 20000 in
theorem ggL_law_X9_longest : GoodIn wsL_law wsX9_longest := goodIn_r _ [587, 257, 263, 588, 265, 266, 267, 5, 268, 589, 590, 591, 592, 575, 135, 576, 577, 578, 579, 121, 122, 283, 284, 285, 286, 305, 306, 307, 308, 117, 118, 532, 533, 534, 535, 1218, 1219, 1220, 1221, 1222, 1223, 1224, 1225, 1226, 1227, 1228, 1229, 1230, 1231, 1232, 1233, 1234, 1235, 1236, 1237, 1238, 1239, 1240, 1241, 1242, 1243, 1244, 1245, 1246, 1247, 1248, 1249, 1250, 1251, 1252, 1253, 1254, 1255] (by decide +kernel) (by decide +kernel)
set_option maxRecDepth 20000 in
theorem gL_law_X9_longest : GoodIn wsL_law (wsV RL 72 RX9 yX9_longest wsX9_longest) := goodIn_app (goodIn_of _ (by decide +kernel)) ggL_law_X9_longest
set_option maxRecDepth 20000 in
theorem ggL_law_X8_zoom : GoodIn wsL_law wsX8_zoom := goodIn_r _ [596, 15, 481, 597, 537, 538, 2, 539, 337, 338, 339, 340, 149, 341, 540, 541, 542, 14, 543, 51, 58, 212, 213, 214, 215, 598, 599, 600, 601, 54, 1206, 1207, 1208, 1209, 1210, 1211, 1212, 1213, 1214, 1215, 1216, 1217, 1256, 1257, 1258, 1259, 1260, 1261, 1262, 1263, 1264, 1265, 1266, 1267, 1268, 1269, 1270, 1288, 1289, 1290, 1291] (by decide +kernel) (by decide +kernel)
set_option maxRecDepth 20000 in
theorem gL_law_X8_zoom : GoodIn wsL_law (wsV RL 73 RX8 yX8_zoom wsX8_zoom) := goodIn_app (goodIn_of _ (by decide +kernel)) ggL_law_X8_zoom
set_option maxRecDepth 20000 in
theorem ggL_law_X9_zoom : GoodIn wsL_law wsX9_zoom := goodIn_r _ [605, 257, 136, 350, 351, 352, 5, 353, 263, 265, 266, 267, 268, 606, 607, 608, 609, 610, 611, 612, 613, 123, 283, 284, 285, 286, 614, 615, 616, 617, 618, 619, 620, 621, 124, 297, 298, 299, 300, 1218, 1219, 1220, 1221, 1222, 1223, 1224, 1225, 1226, 1227, 1228, 1229, 1230, 1231, 1232, 1233, 1234, 1235, 1236, 1237, 1238, 1239, 1240, 1241, 1242, 1243, 1244, 1245, 1246, 1247, 1248, 1249, 1250, 1251, 1252, 1253, 1254, 1255] (by decide +kernel) (by decide +kernel)
set_option maxRecDepth 20000 in
theorem gL_law_X9_zoom : GoodIn wsL_law (wsV RL 76 RX9 yX9_zoom wsX9_zoom) := goodIn_app (goodIn_of _ (by decide +kernel)) ggL_law_X9_zoom
set_option maxRecDepth 20000 in
theorem ggL_law_X8_groups : GoodIn wsL_law wsX8_groups := goodIn_r _ [625, 15, 149, 341, 626, 627, 2, 628, 598, 599, 600, 14, 601, 51, 54, 1206, 1207, 1208, 1209, 1210, 1211, 1212, 1213, 1214, 1215, 1216, 1217, 1256, 1257, 1258, 1259, 1260, 1261, 1262, 1263, 1264, 1265, 1266, 1267, 1268, 1269, 1270, 1288, 1289, 1290, 1291] (by decide +kernel) (by decide +kernel)
set_option maxRecDepth 20000 in
theorem gL_law_X8_groups : GoodIn wsL_law (wsV RL 77 RX8 yX8_groups wsX8_groups) := goodIn_app (goodIn_of _ (by decide +kernel)) ggL_law_X8_groups
set_option maxRecDepth 20000 in
theorem ggL_law_X9_groups : GoodIn wsL_law wsX9_groups := goodIn_r _ [632, 257, 633, 634, 635, 5, 636, 637, 265, 266, 267, 268, 606, 607, 608, 609, 610, 611, 612, 613, 123, 283, 284, 285, 286, 263, 614, 615, 616, 617, 618, 619, 620, 621, 136, 124, 297, 298, 299, 300, 638, 639, 640, 641, 642, 643, 644, 645, 646, 647, 648, 649, 1218, 1219, 1220, 1221, 1222, 1223, 1224, 1225, 1226, 1227, 1228, 1229, 1230, 1231, 1232, 1233, 1234, 1235, 1236, 1237, 1238, 1239, 1240, 1241, 1242, 1243, 1244, 1245, 1246, 1247, 1248, 1249, 1250, 1251, 1252, 1253, 1254, 1255] (by decide +kernel) (by decide +kernel)
set_option maxRecDepth 20000 in
theorem gL_law_X9_groups : GoodIn wsL_law (wsV RL 80 RX9 yX9_groups wsX9_groups) := goodIn_app (goodIn_of _ (by decide +kernel)) ggL_law_X9_groups
set_option maxRecDepth 20000 in
theorem ggL_law_X8_groupOf : GoodIn wsL_law wsX8_groupOf := goodIn_r _ [653, 21, 15, 654, 626, 627, 2, 628, 337, 338, 339, 340, 149, 341, 655, 656, 657, 20, 658, 78, 659, 660, 79, 661, 599, 600, 14, 601, 51, 54, 662, 213, 214, 215, 663, 664, 665, 666, 194, 195, 188, 196, 58, 212, 667, 668, 669, 670, 83, 671, 672, 673, 80, 81, 82, 1206, 1207, 1208, 1209, 1210, 1211, 1212, 1213, 1214, 1215, 1216, 1217, 1271, 1272, 1273, 1274, 1275, 1276, 1256, 1257, 1258, 1259, 1260, 1261, 1262, 1263, 1264, 1265, 1266, 1267, 1268, 1269, 1270, 1288, 1289, 1290, 1291] (by decide +kernel) (by decide +kernel)
set_option maxRecDepth 20000 in
theorem gL_law_X8_groupOf : GoodIn wsL_law (wsV RL 81 RX8 yX8_groupOf wsX8_groupOf) := goodIn_app (goodIn_of _ (by decide +kernel)) ggL_law_X8_groupOf
set_option maxRecDepth 20000 in
theorem ggL_law_X9_groupOf : GoodIn wsL_law wsX9_groupOf := goodIn_r _ [677, 257, 633, 634, 635, 5, 636, 637, 265, 266, 267, 268, 350, 351, 352, 353, 263, 606, 607, 608, 609, 610, 611, 612, 613, 123, 283, 284, 285, 286, 614, 615, 616, 617, 618, 619, 620, 621, 136, 124, 297, 298, 299, 300, 678, 679, 680, 681, 646, 647, 648, 649, 642, 643, 644, 645, 1218, 1219, 1220, 1221, 1222, 1223, 1224, 1225, 1226, 1227, 1228, 1229, 1230, 1231, 1232, 1233, 1234, 1235, 1236, 1237, 1238, 1239, 1240, 1241, 1242, 1243, 1244, 1245, 1246, 1247, 1248, 1249, 1250, 1251, 1252, 1253, 1254, 1255] (by decide +kernel) (by decide +kernel)
set_option maxRecDepth 20000 in
theorem gL_law_X9_groupOf : GoodIn wsL_law (wsV RL 84 RX9 yX9_groupOf wsX9_groupOf) := goodIn_app (goodIn_of _ (by decide +kernel)) ggL_law_X9_groupOf
set_option maxRecDepth 20000 in
theorem ggL_law_X8_group : GoodIn wsL_law wsX8_group := goodIn_r _ [685, 15, 149, 21, 686, 687, 418, 419, 688, 689, 690, 691, 692, 2, 693, 694, 626, 627, 628, 655, 656, 657, 20, 658, 78, 659, 660, 79, 661, 599, 600, 14, 601, 51, 54, 662, 213, 214, 215, 663, 664, 665, 666, 194, 195, 188, 196, 58, 212, 667, 668, 669, 670, 83, 671, 672, 673, 80, 81, 82, 695, 696, 697, 698, 699, 700, 701, 490, 491, 492, 493, 494, 495, 496, 702, 703, 704, 705, 706, 707, 708, 709, 198, 199, 710, 711, 712, 49, 713, 70, 73, 501, 714, 715, 716, 717, 718, 719, 720, 721, 22, 722, 723, 724, 725, 726, 727, 728, 729, 730, 424, 201, 202, 203, 71, 72, 204, 205, 206, 207, 1206, 1207, 1208, 1209, 1210, 1211, 1212, 1213, 1214, 1215, 1216, 1217, 1256, 1257, 1258, 1259, 1260, 1261, 1262, 1263, 1264, 1265, 1266, 1267, 1268, 1269, 1270, 1271, 1272, 1273, 1274, 1275, 1276, 1288, 1289, 1290, 1291] (by decide +kernel) (by decide +kernel)
set_option maxRecDepth 20000 in
theorem gL_law_X8_group : GoodIn wsL_law (wsV RL 85 RX8 yX8_group wsX8_group) := goodIn_app (goodIn_of _ (by decide +kernel)) ggL_law_X8_group
set_option maxRecDepth 20000 in
theorem ggL_law_X9_group : GoodIn wsL_law wsX9_group := goodIn_r _ [734, 257, 735, 736, 737, 5, 738, 263, 136, 633, 634, 635, 636, 637, 265, 266, 267, 268, 606, 607, 608, 609, 610, 611, 612, 613, 123, 283, 284, 285, 286, 614, 615, 616, 617, 618, 619, 620, 621, 124, 297, 298, 299, 300, 642, 643, 644, 645, 646, 647, 648, 649, 520, 521, 522, 523, 524, 525, 526, 527, 119, 739, 740, 741, 742, 117, 118, 743, 744, 745, 746, 747, 748, 749, 750, 751, 752, 753, 754, 755, 756, 757, 758, 759, 760, 761, 762, 296, 198, 188, 199, 305, 306, 307, 308, 1218, 1219, 1220, 1221, 1222, 1223, 1224, 1225, 1226, 1227, 1228, 1229, 1230, 1231, 1232, 1233, 1234, 1235, 1236, 1237, 1238, 1239, 1240, 1241, 1242, 1243, 1244, 1245, 1246, 1247, 1248, 1249, 1250, 1251, 1252, 1253, 1254, 1255] (by decide +kernel) (by decide +kernel)
set_option maxRecDepth 20000 in
theorem gL_law_X9_group : GoodIn wsL_law (wsV RL 88 RX9 yX9_group wsX9_group) := goodIn_app (goodIn_of _ (by decide +kernel)) ggL_law_X9_group
set_option maxRecDepth 20000 in
theorem ggL_law_X8_member : GoodIn wsL_law wsX8_member := goodIn_r _ [766, 21, 686, 690, 691, 692, 2, 693, 15, 694, 626, 627, 628, 655, 656, 657, 20, 658, 78, 659, 660, 79, 661, 599, 600, 14, 601, 51, 54, 662, 213, 214, 215, 663, 664, 665, 666, 194, 195, 188, 196, 58, 212, 667, 668, 669, 670, 83, 671, 672, 673, 80, 81, 82, 767, 699, 700, 701, 1206, 1207, 1208, 1209, 1210, 1211, 1212, 1213, 1214, 1215, 1216, 1217, 1271, 1272, 1273, 1274, 1275, 1276, 1256, 1257, 1258, 1259, 1260, 1261, 1262, 1263, 1264, 1265, 1266, 1267, 1268, 1269, 1270, 1288, 1289, 1290, 1291] (by decide +kernel) (by decide +kernel)
set_option maxRecDepth 20000 in
theorem gL_law_X8_member : GoodIn wsL_law (wsV RL 89 RX8 yX8_member wsX8_member) := goodIn_app (goodIn_of _ (by decide +kernel)) ggL_law_X8_member
set_option maxRecDepth 20000 in
theorem ggL_law_X9_member : GoodIn wsL_law wsX9_member := goodIn_r _ [771, 257, 263, 735, 736, 737, 5, 738, 136, 633, 634, 635, 636, 637, 265, 266, 267, 268, 606, 607, 608, 609, 610, 611, 612, 613, 123, 283, 284, 285, 286, 614, 615, 616, 617, 618, 619, 620, 621, 124, 297, 298, 299, 300, 642, 643, 644, 645, 646, 647, 648, 649, 1218, 1219, 1220, 1221, 1222, 1223, 1224, 1225, 1226, 1227, 1228, 1229, 1230, 1231, 1232, 1233, 1234, 1235, 1236, 1237, 1238, 1239, 1240, 1241, 1242, 1243, 1244, 1245, 1246, 1247, 1248, 1249, 1250, 1251, 1252, 1253, 1254, 1255] (by decide +kernel) (by decide +kernel)
set_option maxRecDepth 20000 in
theorem gL_law_X9_member : GoodIn wsL_law (wsV RL 92 RX9 yX9_member wsX9_member) := goodIn_app (goodIn_of _ (by decide +kernel)) ggL_law_X9_member
set_option maxRecDepth 20000 in
theorem ggL_law_X8_splits : GoodIn wsL_law wsX8_splits := goodIn_r _ [775, 22, 15, 21, 686, 690, 691, 692, 2, 693, 694, 626, 627, 628, 655, 656, 657, 20, 658, 78, 659, 660, 79, 661, 599, 600, 14, 601, 51, 54, 662, 213, 214, 215, 663, 664, 665, 666, 194, 195, 188, 196, 58, 212, 667, 668, 669, 670, 83, 671, 672, 673, 80, 81, 82, 722, 723, 724, 725, 767, 699, 700, 701, 1206, 1207, 1208, 1209, 1210, 1211, 1212, 1213, 1214, 1215, 1216, 1217, 1271, 1272, 1273, 1274, 1275, 1276, 1256, 1257, 1258, 1259, 1260, 1261, 1262, 1263, 1264, 1265, 1266, 1267, 1268, 1269, 1270, 1288, 1289, 1290, 1291] (by decide +kernel) (by decide +kernel)
set_option maxRecDepth 20000 in
theorem gL_law_X8_splits : GoodIn wsL_law (wsV RL 93 RX8 yX8_splits wsX8_splits) := goodIn_app (goodIn_of _ (by decide +kernel)) ggL_law_X8_splits
set_option maxRecDepth 20000 in
theorem ggL_law_X9_splits : GoodIn wsL_law wsX9_splits := goodIn_r _ [779, 257, 263, 735, 736, 737, 5, 738, 136, 633, 634, 635, 636, 637, 265, 266, 267, 268, 606, 607, 608, 609, 610, 611, 612, 613, 123, 283, 284, 285, 286, 614, 615, 616, 617, 618, 619, 620, 621, 124, 297, 298, 299, 300, 642, 643, 644, 645, 646, 647, 648, 649, 678, 679, 680, 681, 1218, 1219, 1220, 1221, 1222, 1223, 1224, 1225, 1226, 1227, 1228, 1229, 1230, 1231, 1232, 1233, 1234, 1235, 1236, 1237, 1238, 1239, 1240, 1241, 1242, 1243, 1244, 1245, 1246, 1247, 1248, 1249, 1250, 1251, 1252, 1253, 1254, 1255] (by decide +kernel) (by decide +kernel)
set_option maxRecDepth 20000 in
theorem gL_law_X9_splits : GoodIn wsL_law (wsV RL 96 RX9 yX9_splits wsX9_splits) := goodIn_app (goodIn_of _ (by decide +kernel)) ggL_law_X9_splits
set_option maxRecDepth 20000 in
theorem ggL_law_X8_window : GoodIn wsL_law wsX8_window := goodIn_r _ [783, 21, 15, 149, 626, 627, 2, 628, 655, 656, 657, 20, 658, 78, 659, 660, 79, 661, 599, 600, 14, 601, 51, 54, 662, 213, 214, 215, 663, 664, 665, 666, 194, 195, 188, 196, 58, 212, 667, 668, 669, 670, 83, 671, 672, 673, 80, 81, 82, 784, 785, 786, 787, 788, 789, 790, 49, 791, 70, 71, 72, 490, 491, 492, 493, 494, 495, 496, 792, 793, 794, 795, 497, 498, 499, 500, 73, 501, 1206, 1207, 1208, 1209, 1210, 1211, 1212, 1213, 1214, 1215, 1216, 1217, 1256, 1257, 1258, 1259, 1260, 1261, 1262, 1263, 1264, 1265, 1266, 1267, 1268, 1269, 1270, 1271, 1272, 1273, 1274, 1275, 1276, 1288, 1289, 1290, 1291] (by decide +kernel) (by decide +kernel)
set_option maxRecDepth 20000 in
theorem gL_law_X8_window : GoodIn wsL_law (wsV RL 97 RX8 yX8_window wsX8_window) := goodIn_app (goodIn_of _ (by decide +kernel)) ggL_law_X8_window
set_option maxRecDepth 20000 in
theorem ggL_law_X9_window : GoodIn wsL_law wsX9_window := goodIn_r _ [799, 257, 800, 633, 634, 635, 5, 636, 637, 265, 266, 267, 268, 606, 607, 608, 609, 610, 611, 612, 613, 123, 283, 284, 285, 286, 263, 614, 615, 616, 617, 618, 619, 620, 621, 136, 124, 297, 298, 299, 300, 801, 802, 803, 804, 642, 643, 644, 645, 646, 647, 648, 649, 805, 806, 807, 808, 743, 744, 745, 746, 119, 117, 118, 524, 525, 526, 527, 809, 810, 811, 812, 813, 814, 815, 816, 520, 521, 522, 523, 1218, 1219, 1220, 1221, 1222, 1223, 1224, 1225, 1226, 1227, 1228, 1229, 1230, 1231, 1232, 1233, 1234, 1235, 1236, 1237, 1238, 1239, 1240, 1241, 1242, 1243, 1244, 1245, 1246, 1247, 1248, 1249, 1250, 1251, 1252, 1253, 1254, 1255] (by decide +kernel) (by decide +kernel)
set_option maxRecDepth 20000 in
theorem gL_law_X9_window : GoodIn wsL_law (wsV RL 101 RX9 yX9_window wsX9_window) := goodIn_app (goodIn_of _ (by decide +kernel)) ggL_law_X9_window
set_option maxRecDepth 20000 in
theorem ggL_law_X8_top : GoodIn wsL_law wsX8_top := goodIn_r _ [820, 21, 15, 626, 627, 2, 628, 655, 656, 657, 20, 658, 78, 659, 660, 79, 661, 599, 600, 14, 601, 51, 54, 662, 213, 214, 215, 663, 664, 665, 666, 194, 195, 188, 196, 58, 212, 667, 668, 669, 670, 83, 671, 672, 673, 80, 81, 82, 784, 785, 786, 787, 821, 822, 823, 824, 825, 826, 827, 828, 1206, 1207, 1208, 1209, 1210, 1211, 1212, 1213, 1214, 1215, 1216, 1217, 1271, 1272, 1273, 1274, 1275, 1276, 1256, 1257, 1258, 1259, 1260, 1261, 1262, 1263, 1264, 1265, 1266, 1267, 1268, 1269, 1270, 1288, 1289, 1290, 1291] (by decide +kernel) (by decide +kernel)
set_option maxRecDepth 20000 in
theorem gL_law_X8_top : GoodIn wsL_law (wsV RL 102 RX8 yX8_top wsX8_top) := goodIn_app (goodIn_of _ (by decide +kernel)) ggL_law_X8_top
set_option maxRecDepth 20000 in
theorem ggL_law_X9_top : GoodIn wsL_law wsX9_top := goodIn_r _ [832, 257, 263, 136, 633, 634, 635, 5, 636, 637, 265, 266, 267, 268, 606, 607, 608, 609, 610, 611, 612, 613, 123, 283, 284, 285, 286, 614, 615, 616, 617, 618, 619, 620, 621, 124, 297, 298, 299, 300, 642, 643, 644, 645, 646, 647, 648, 649, 805, 806, 807, 808, 743, 744, 745, 746, 119, 117, 118, 524, 525, 526, 527, 809, 810, 811, 812, 678, 679, 680, 681, 1218, 1219, 1220, 1221, 1222, 1223, 1224, 1225, 1226, 1227, 1228, 1229, 1230, 1231, 1232, 1233, 1234, 1235, 1236, 1237, 1238, 1239, 1240, 1241, 1242, 1243, 1244, 1245, 1246, 1247, 1248, 1249, 1250, 1251, 1252, 1253, 1254, 1255] (by decide +kernel) (by decide +kernel)
set_option maxRecDepth 20000 in
theorem gL_law_X9_top : GoodIn wsL_law (wsV RL 105 RX9 yX9_top wsX9_top) := goodIn_app (goodIn_of _ (by decide +kernel)) ggL_law_X9_top
set_option maxRecDepth 20000 in
theorem ggL_law_X8_filled : GoodIn wsL_law wsX8_filled := goodIn_r _ [836, 15, 149, 341, 40, 419, 418, 626, 627, 2, 628, 837, 838, 839, 840, 1206, 1207, 1208, 1209, 1210, 1211, 1212, 1213, 1214, 1215, 1216, 1217, 1256, 1257, 1258, 1259, 1260, 1261, 1262, 1263, 1264, 1265, 1266, 1267, 1268, 1269, 1270, 1288, 1289, 1290, 1291] (by decide +kernel) (by decide +kernel)
set_option maxRecDepth 20000 in
theorem gL_law_X8_filled : GoodIn wsL_law (wsV RL 106 RX8 yX8_filled wsX8_filled) := goodIn_app (goodIn_of _ (by decide +kernel)) ggL_law_X8_filled
set_option maxRecDepth 20000 in
theorem ggL_law_X9_filled : GoodIn wsL_law wsX9_filled := goodIn_r _ [844, 257, 263, 118, 117, 633, 634, 635, 5, 636, 637, 265, 266, 267, 268, 614, 615, 616, 617, 1218, 1219, 1220, 1221, 1222, 1223, 1224, 1225, 1226, 1227, 1228, 1229, 1230, 1231, 1232, 1233, 1234, 1235, 1236, 1237, 1238, 1239, 1240, 1241, 1242, 1243, 1244, 1245, 1246, 1247, 1248, 1249, 1250, 1251, 1252, 1253, 1254, 1255] (by decide +kernel) (by decide +kernel)
set_option maxRecDepth 20000 in
theorem gL_law_X9_filled : GoodIn wsL_law (wsV RL 109 RX9 yX9_filled wsX9_filled) := goodIn_app (goodIn_of _ (by decide +kernel)) ggL_law_X9_filled
set_option maxRecDepth 20000 in
theorem ggL_law_X8_densest : GoodIn wsL_law wsX8_densest := goodIn_r _ [848, 15, 149, 341, 418, 419, 626, 627, 2, 628, 788, 789, 790, 49, 791, 70, 71, 72, 497, 498, 499, 500, 73, 501, 213, 214, 215, 490, 491, 492, 493, 494, 495, 496, 1206, 1207, 1208, 1209, 1210, 1211, 1212, 1213, 1214, 1215, 1216, 1217, 1256, 1257, 1258, 1259, 1260, 1261, 1262, 1263, 1264, 1265, 1266, 1267, 1268, 1269, 1270, 1288, 1289, 1290, 1291] (by decide +kernel) (by decide +kernel)
set_option maxRecDepth 20000 in
theorem gL_law_X8_densest : GoodIn wsL_law (wsV RL 110 RX8 yX8_densest wsX8_densest) := goodIn_app (goodIn_of _ (by decide +kernel)) ggL_law_X8_densest
set_option maxRecDepth 20000 in
theorem ggL_law_X9_densest : GoodIn wsL_law wsX9_densest := goodIn_r _ [852, 257, 263, 800, 117, 118, 633, 634, 635, 5, 636, 637, 265, 266, 267, 268, 614, 615, 616, 617, 813, 814, 815, 816, 809, 810, 811, 812, 524, 525, 526, 527, 119, 297, 298, 299, 300, 520, 521, 522, 523, 1218, 1219, 1220, 1221, 1222, 1223, 1224, 1225, 1226, 1227, 1228, 1229, 1230, 1231, 1232, 1233, 1234, 1235, 1236, 1237, 1238, 1239, 1240, 1241, 1242, 1243, 1244, 1245, 1246, 1247, 1248, 1249, 1250, 1251, 1252, 1253, 1254, 1255] (by decide +kernel) (by decide +kernel)
set_option maxRecDepth 20000 in
theorem gL_law_X9_densest : GoodIn wsL_law (wsV RL 113 RX9 yX9_densest wsX9_densest) := goodIn_app (goodIn_of _ (by decide +kernel)) ggL_law_X9_densest
set_option maxRecDepth 20000 in
theorem ggL_law_X8_cover : GoodIn wsL_law wsX8_cover := goodIn_r _ [856, 21, 686, 15, 149, 341, 690, 691, 692, 2, 693, 694, 626, 627, 628, 655, 656, 657, 20, 658, 78, 659, 660, 79, 661, 599, 600, 14, 601, 51, 54, 662, 213, 214, 215, 663, 664, 665, 666, 194, 195, 188, 196, 58, 212, 667, 668, 669, 670, 83, 671, 672, 673, 80, 81, 82, 857, 858, 859, 860, 861, 418, 419, 862, 863, 864, 865, 788, 789, 790, 49, 791, 70, 71, 72, 695, 696, 697, 698, 699, 700, 701, 1206, 1207, 1208, 1209, 1210, 1211, 1212, 1213, 1214, 1215, 1216, 1217, 1271, 1272, 1273, 1274, 1275, 1276, 1256, 1257, 1258, 1259, 1260, 1261, 1262, 1263, 1264, 1265, 1266, 1267, 1268, 1269, 1270, 1288, 1289, 1290, 1291] (by decide +kernel) (by decide +kernel)
set_option maxRecDepth 20000 in
theorem gL_law_X8_cover : GoodIn wsL_law (wsV RL 114 RX8 yX8_cover wsX8_cover) := goodIn_app (goodIn_of _ (by decide +kernel)) ggL_law_X8_cover
set_option maxRecDepth 20000 in
theorem ggL_law_X9_cover : GoodIn wsL_law wsX9_cover := goodIn_r _ [869, 257, 735, 736, 737, 5, 738, 263, 136, 633, 634, 635, 636, 637, 265, 266, 267, 268, 606, 607, 608, 609, 610, 611, 612, 613, 123, 283, 284, 285, 286, 614, 615, 616, 617, 618, 619, 620, 621, 124, 297, 298, 299, 300, 642, 643, 644, 645, 646, 647, 648, 649, 870, 871, 872, 873, 874, 875, 876, 877, 813, 814, 815, 816, 117, 118, 809, 810, 811, 812, 1218, 1219, 1220, 1221, 1222, 1223, 1224, 1225, 1226, 1227, 1228, 1229, 1230, 1231, 1232, 1233, 1234, 1235, 1236, 1237, 1238, 1239, 1240, 1241, 1242, 1243, 1244, 1245, 1246, 1247, 1248, 1249, 1250, 1251, 1252, 1253, 1254, 1255] (by decide +kernel) (by decide +kernel)
set_option maxRecDepth 20000 in
theorem gL_law_X9_cover : GoodIn wsL_law (wsV RL 117 RX9 yX9_cover wsX9_cover) := goodIn_app (goodIn_of _ (by decide +kernel)) ggL_law_X9_cover
set_option maxRecDepth 20000 in
theorem ggL_law_X8_outline : GoodIn wsL_law wsX8_outline := goodIn_r _ [881, 30, 15, 149, 21, 686, 882, 883, 690, 691, 692, 2, 693, 694, 626, 627, 628, 655, 656, 657, 20, 658, 78, 659, 660, 79, 661, 599, 600, 14, 601, 51, 54, 662, 213, 214, 215, 663, 664, 665, 666, 194, 195, 188, 196, 58, 212, 667, 668, 669, 670, 83, 671, 672, 673, 80, 81, 82, 884, 885, 886, 29, 887, 95, 888, 96, 889, 890, 891, 892, 893, 894, 895, 896, 897, 898, 1206, 1207, 1208, 1209, 1210, 1211, 1212, 1213, 1214, 1215, 1216, 1217, 1256, 1257, 1258, 1259, 1260, 1261, 1262, 1263, 1264, 1265, 1266, 1267, 1268, 1269, 1270, 1271, 1272, 1273, 1274, 1275, 1276, 1280, 1281, 1288, 1289, 1290, 1291] (by decide +kernel) (by decide +kernel)
set_option maxRecDepth 20000 in
theorem gL_law_X8_outline : GoodIn wsL_law (wsV RL 118 RX8 yX8_outline wsX8_outline) := goodIn_app (goodIn_of _ (by decide +kernel)) ggL_law_X8_outline
set_option maxRecDepth 20000 in
theorem ggL_law_X9_outline : GoodIn wsL_law wsX9_outline := goodIn_r _ [902, 257, 903, 137, 735, 736, 737, 5, 738, 263, 136, 633, 634, 635, 636, 637, 265, 266, 267, 268, 606, 607, 608, 609, 610, 611, 612, 613, 123, 283, 284, 285, 286, 614, 615, 616, 617, 618, 619, 620, 621, 124, 297, 298, 299, 300, 642, 643, 644, 645, 646, 647, 648, 649, 904, 905, 906, 907, 520, 521, 522, 523, 908, 909, 910, 911, 912, 913, 914, 915, 117, 118, 305, 306, 307, 308, 1218, 1219, 1220, 1221, 1222, 1223, 1224, 1225, 1226, 1227, 1228, 1229, 1230, 1231, 1232, 1233, 1234, 1235, 1236, 1237, 1238, 1239, 1240, 1241, 1242, 1243, 1244, 1245, 1246, 1247, 1248, 1249, 1250, 1251, 1252, 1253, 1254, 1255] (by decide +kernel) (by decide +kernel)
set_option maxRecDepth 20000 in
theorem gL_law_X9_outline : GoodIn wsL_law (wsV RL 121 RX9 yX9_outline wsX9_outline) := goodIn_app (goodIn_of _ (by decide +kernel)) ggL_law_X9_outline
set_option maxRecDepth 20000 in
theorem ggL_law_X8_area : GoodIn wsL_law wsX8_area := goodIn_r _ [919, 30, 15, 149, 21, 686, 690, 691, 692, 2, 693, 694, 626, 627, 628, 655, 656, 657, 20, 658, 78, 659, 660, 79, 661, 599, 600, 14, 601, 51, 54, 662, 213, 214, 215, 663, 664, 665, 666, 194, 195, 188, 196, 58, 212, 667, 668, 669, 670, 83, 671, 672, 673, 80, 81, 82, 884, 885, 886, 29, 887, 95, 888, 96, 889, 890, 891, 892, 893, 894, 895, 896, 897, 898, 920, 921, 922, 923, 1206, 1207, 1208, 1209, 1210, 1211, 1212, 1213, 1214, 1215, 1216, 1217, 1256, 1257, 1258, 1259, 1260, 1261, 1262, 1263, 1264, 1265, 1266, 1267, 1268, 1269, 1270, 1271, 1272, 1273, 1274, 1275, 1276, 1288, 1289, 1290, 1291, 1280, 1281] (by decide +kernel) (by decide +kernel)
set_option maxRecDepth 20000 in
theorem gL_law_X8_area : GoodIn wsL_law (wsV RL 122 RX8 yX8_area wsX8_area) := goodIn_app (goodIn_of _ (by decide +kernel)) ggL_law_X8_area
set_option maxRecDepth 20000 in
theorem ggL_law_X9_area : GoodIn wsL_law wsX9_area := goodIn_r _ [927, 257, 903, 137, 735, 736, 737, 5, 738, 263, 136, 633, 634, 635, 636, 637, 265, 266, 267, 268, 606, 607, 608, 609, 610, 611, 612, 613, 123, 283, 284, 285, 286, 614, 615, 616, 617, 618, 619, 620, 621, 124, 297, 298, 299, 300, 642, 643, 644, 645, 646, 647, 648, 649, 904, 905, 906, 907, 520, 521, 522, 523, 908, 909, 910, 911, 912, 913, 914, 915, 117, 118, 305, 306, 307, 308, 1218, 1219, 1220, 1221, 1222, 1223, 1224, 1225, 1226, 1227, 1228, 1229, 1230, 1231, 1232, 1233, 1234, 1235, 1236, 1237, 1238, 1239, 1240, 1241, 1242, 1243, 1244, 1245, 1246, 1247, 1248, 1249, 1250, 1251, 1252, 1253, 1254, 1255] (by decide +kernel) (by decide +kernel)
set_option maxRecDepth 20000 in
theorem gL_law_X9_area : GoodIn wsL_law (wsV RL 125 RX9 yX9_area wsX9_area) := goodIn_app (goodIn_of _ (by decide +kernel)) ggL_law_X9_area
set_option maxRecDepth 20000 in
theorem ggL_law_X8_drift : GoodIn wsL_law wsX8_drift := goodIn_r _ [931, 21, 15, 22, 694, 686, 688, 689, 655, 656, 657, 20, 658, 78, 659, 660, 79, 661, 599, 600, 14, 601, 51, 54, 662, 213, 214, 215, 663, 664, 665, 666, 194, 195, 188, 196, 58, 212, 667, 668, 669, 670, 83, 671, 672, 673, 80, 81, 82, 932, 933, 934, 935, 936, 937, 938, 939, 940, 941, 709, 198, 199, 1206, 1207, 1208, 1209, 1210, 1211, 1212, 1213, 1214, 1215, 1216, 1217, 1271, 1272, 1273, 1274, 1275, 1276, 1256, 1257, 1258, 1259, 1260, 1261, 1262, 1263, 1264, 1265, 1266, 1267, 1268, 1269, 1270, 1288, 1289, 1290, 1291] (by decide +kernel) (by decide +kernel)
set_option maxRecDepth 20000 in
theorem gL_law_X8_drift : GoodIn wsL_law (wsV RL 126 RX8 yX8_drift wsX8_drift) := goodIn_app (goodIn_of _ (by decide +kernel)) ggL_law_X8_drift
set_option maxRecDepth 20000 in
theorem ggL_law_X9_drift : GoodIn wsL_law wsX9_drift := goodIn_r _ [945, 257, 946, 263, 138, 136, 265, 266, 267, 5, 268, 606, 607, 608, 609, 610, 611, 612, 613, 123, 283, 284, 285, 286, 614, 615, 616, 617, 618, 619, 620, 621, 124, 297, 298, 299, 300, 642, 643, 644, 645, 646, 647, 648, 649, 947, 948, 949, 950, 951, 940, 188, 941, 296, 198, 199, 743, 744, 745, 746, 119, 117, 118, 524, 525, 526, 527, 1218, 1219, 1220, 1221, 1222, 1223, 1224, 1225, 1226, 1227, 1228, 1229, 1230, 1231, 1232, 1233, 1234, 1235, 1236, 1237, 1238, 1239, 1240, 1241, 1242, 1243, 1244, 1245, 1246, 1247, 1248, 1249, 1250, 1251, 1252, 1253, 1254, 1255] (by decide +kernel) (by decide +kernel)
set_option maxRecDepth 20000 in
theorem gL_law_X9_drift : GoodIn wsL_law (wsV RL 129 RX9 yX9_drift wsX9_drift) := goodIn_app (goodIn_of _ (by decide +kernel)) ggL_law_X9_drift
set_option maxRecDepth 20000 in
theorem ggL_law_X8_tile : GoodIn wsL_law wsX8_tile := goodIn_r _ [955, 15, 149, 21, 956, 957, 2, 958, 626, 627, 628, 862, 863, 864, 865, 788, 789, 790, 49, 791, 70, 71, 72, 490, 491, 492, 493, 494, 495, 496, 497, 498, 499, 500, 73, 501, 213, 214, 215, 655, 656, 657, 20, 658, 78, 659, 660, 79, 661, 599, 600, 14, 601, 51, 54, 662, 663, 664, 665, 666, 194, 195, 188, 196, 58, 212, 667, 668, 669, 670, 83, 671, 672, 673, 80, 81, 82, 784, 785, 786, 787, 959, 960, 961, 962, 1206, 1207, 1208, 1209, 1210, 1211, 1212, 1213, 1214, 1215, 1216, 1217, 1256, 1257, 1258, 1259, 1260, 1261, 1262, 1263, 1264, 1265, 1266, 1267, 1268, 1269, 1270, 1288, 1289, 1290, 1291, 1271, 1272, 1273, 1274, 1275, 1276] (by decide +kernel) (by decide +kernel)
set_option maxRecDepth 20000 in
theorem gL_law_X8_tile : GoodIn wsL_law (wsV RL 130 RX8 yX8_tile wsX8_tile) := goodIn_app (goodIn_of _ (by decide +kernel)) ggL_law_X8_tile
set_option maxRecDepth 20000 in
theorem ggL_law_X9_tile : GoodIn wsL_law wsX9_tile := goodIn_r _ [966, 257, 800, 633, 634, 635, 5, 636, 637, 265, 266, 267, 268, 874, 875, 876, 877, 614, 615, 616, 617, 813, 814, 815, 816, 263, 117, 118, 809, 810, 811, 812, 520, 521, 522, 523, 297, 298, 299, 300, 524, 525, 526, 527, 119, 606, 607, 608, 609, 610, 611, 612, 613, 123, 283, 284, 285, 286, 618, 619, 620, 621, 136, 124, 801, 802, 803, 804, 642, 643, 644, 645, 646, 647, 648, 649, 805, 806, 807, 808, 743, 744, 745, 746, 1218, 1219, 1220, 1221, 1222, 1223, 1224, 1225, 1226, 1227, 1228, 1229, 1230, 1231, 1232, 1233, 1234, 1235, 1236, 1237, 1238, 1239, 1240, 1241, 1242, 1243, 1244, 1245, 1246, 1247, 1248, 1249, 1250, 1251, 1252, 1253, 1254, 1255] (by decide +kernel) (by decide +kernel)
set_option maxRecDepth 20000 in
theorem gL_law_X9_tile : GoodIn wsL_law (wsV RL 134 RX9 yX9_tile wsX9_tile) := goodIn_app (goodIn_of _ (by decide +kernel)) ggL_law_X9_tile
set_option maxRecDepth 20000 in
theorem ggL_law_X8_part : GoodIn wsL_law wsX8_part := goodIn_r _ [970, 15, 149, 341, 337, 338, 339, 2, 340, 971, 664, 665, 14, 666, 51, 194, 195, 188, 196, 58, 212, 213, 214, 215, 695, 696, 697, 698, 699, 700, 701, 1206, 1207, 1208, 1209, 1210, 1211, 1212, 1213, 1214, 1215, 1216, 1217, 1256, 1257, 1258, 1259, 1260, 1261, 1262, 1263, 1264, 1265, 1266, 1267, 1268, 1269, 1270, 1288, 1289, 1290, 1291] (by decide +kernel) (by decide +kernel)
set_option maxRecDepth 20000 in
theorem gL_law_X8_part : GoodIn wsL_law (wsV RL 135 RX8 yX8_part wsX8_part) := goodIn_app (goodIn_of _ (by decide +kernel)) ggL_law_X8_part
set_option maxRecDepth 20000 in
theorem ggL_law_X9_part : GoodIn wsL_law wsX9_part := goodIn_r _ [975, 257, 263, 136, 265, 266, 267, 5, 268, 350, 351, 352, 353, 618, 619, 620, 621, 124, 297, 298, 299, 300, 646, 647, 648, 649, 1218, 1219, 1220, 1221, 1222, 1223, 1224, 1225, 1226, 1227, 1228, 1229, 1230, 1231, 1232, 1233, 1234, 1235, 1236, 1237, 1238, 1239, 1240, 1241, 1242, 1243, 1244, 1245, 1246, 1247, 1248, 1249, 1250, 1251, 1252, 1253, 1254, 1255] (by decide +kernel) (by decide +kernel)
set_option maxRecDepth 20000 in
theorem gL_law_X9_part : GoodIn wsL_law (wsV RL 138 RX9 yX9_part wsX9_part) := goodIn_app (goodIn_of _ (by decide +kernel)) ggL_law_X9_part
set_option maxRecDepth 20000 in
theorem ggL_law_X8_clearest : GoodIn wsL_law wsX8_clearest := goodIn_r _ [979, 15, 481, 980, 149, 341, 1206, 1207, 1208, 1209, 1210, 1211, 1212, 1213, 1214, 1215, 1216, 1217, 1256, 1257, 1258, 1259, 1260, 1261, 1262, 1263, 1264, 1265, 1266, 1267, 1268, 1269, 1270, 1288, 1289, 1290, 1291] (by decide +kernel) (by decide +kernel)
set_option maxRecDepth 20000 in
theorem gL_law_X8_clearest : GoodIn wsL_law (wsV RL 139 RX8 yX8_clearest wsX8_clearest) := goodIn_app (goodIn_of _ (by decide +kernel)) ggL_law_X8_clearest
set_option maxRecDepth 20000 in
theorem ggL_law_X9_clearest : GoodIn wsL_law wsX9_clearest := goodIn_r _ [984, 257, 263, 123, 532, 533, 534, 5, 535, 1218, 1219, 1220, 1221, 1222, 1223, 1224, 1225, 1226, 1227, 1228, 1229, 1230, 1231, 1232, 1233, 1234, 1235, 1236, 1237, 1238, 1239, 1240, 1241, 1242, 1243, 1244, 1245, 1246, 1247, 1248, 1249, 1250, 1251, 1252, 1253, 1254, 1255] (by decide +kernel) (by decide +kernel)
set_option maxRecDepth 20000 in
theorem gL_law_X9_clearest : GoodIn wsL_law (wsV RL 142 RX9 yX9_clearest wsX9_clearest) := goodIn_app (goodIn_of _ (by decide +kernel)) ggL_law_X9_clearest
set_option maxRecDepth 20000 in
theorem ggL_law_X8_best : GoodIn wsL_law wsX8_best := goodIn_r _ [988, 38, 15, 989, 990, 149, 341, 991, 992, 993, 37, 994, 107, 108, 995, 996, 112, 997, 109, 998, 198, 188, 199, 111, 999, 503, 504, 14, 505, 58, 55, 61, 62, 238, 239, 240, 506, 507, 508, 509, 51, 50, 510, 498, 499, 49, 500, 70, 73, 501, 213, 214, 215, 1000, 1001, 1002, 1003, 1004, 1005, 1006, 1007, 1008, 1009, 1010, 1011, 1012, 1013, 1014, 1015, 1016, 1017, 1018, 1019, 235, 236, 237, 1020, 696, 697, 698, 699, 700, 701, 1021, 1022, 1023, 1024, 1025, 1026, 1027, 1028, 1206, 1207, 1208, 1209, 1210, 1211, 1212, 1213, 1214, 1215, 1216, 1217, 1283, 1284, 1285, 1286, 1287, 1256, 1257, 1258, 1259, 1260, 1261, 1262, 1263, 1264, 1265, 1266, 1267, 1268, 1269, 1270, 1288, 1289, 1290, 1291] (by decide +kernel) (by decide +kernel)
set_option maxRecDepth 20000 in
theorem gL_law_X8_best : GoodIn wsL_law (wsV RL 143 RX8 yX8_best wsX8_best) := goodIn_app (goodIn_of _ (by decide +kernel)) ggL_law_X8_best
set_option maxRecDepth 20000 in
theorem ggL_law_X9_best : GoodIn wsL_law wsX9_best := goodIn_r _ [1032, 257, 1033, 263, 637, 946, 139, 1034, 1035, 1036, 5, 1037, 125, 126, 528, 529, 530, 531, 124, 128, 127, 123, 524, 525, 526, 527, 119, 297, 298, 299, 300, 532, 533, 534, 535, 1038, 1039, 1040, 1041, 296, 198, 188, 199, 1042, 1043, 1044, 1045, 646, 647, 648, 649, 265, 266, 267, 268, 1218, 1219, 1220, 1221, 1222, 1223, 1224, 1225, 1226, 1227, 1228, 1229, 1230, 1231, 1232, 1233, 1234, 1235, 1236, 1237, 1238, 1239, 1240, 1241, 1242, 1243, 1244, 1245, 1246, 1247, 1248, 1249, 1250, 1251, 1252, 1253, 1254, 1255] (by decide +kernel) (by decide +kernel)
set_option maxRecDepth 20000 in
theorem gL_law_X9_best : GoodIn wsL_law (wsV RL 146 RX9 yX9_best wsX9_best) := goodIn_app (goodIn_of _ (by decide +kernel)) ggL_law_X9_best
set_option maxRecDepth 20000 in
theorem ggL_law_X8_shown : GoodIn wsL_law wsX8_shown := goodIn_r _ [1049, 26, 1050, 626, 627, 2, 628, 1051, 1052, 1053, 1054, 21, 15, 41, 655, 656, 657, 20, 658, 78, 659, 660, 79, 661, 599, 600, 14, 601, 51, 54, 662, 213, 214, 215, 663, 664, 665, 666, 194, 195, 188, 196, 58, 212, 667, 668, 669, 670, 83, 671, 672, 673, 80, 81, 82, 1055, 1056, 1057, 25, 1058, 1059, 88, 89, 90, 1060, 1061, 1062, 1063, 822, 823, 824, 825, 826, 827, 828, 1064, 1065, 1066, 1067, 1068, 1069, 1070, 1071, 1072, 1073, 1074, 1075, 1076, 937, 938, 939, 940, 941, 709, 198, 199, 1206, 1207, 1208, 1209, 1210, 1211, 1212, 1213, 1214, 1215, 1216, 1217, 1277, 1278, 1279, 1271, 1272, 1273, 1274, 1275, 1276, 1256, 1257, 1258, 1259, 1260, 1261, 1262, 1263, 1264, 1265, 1266, 1267, 1268, 1269, 1270, 1288, 1289, 1290, 1291] (by decide +kernel) (by decide +kernel)
set_option maxRecDepth 20000 in
theorem gL_law_X8_shown : GoodIn wsL_law (wsV RL 147 RX8 yX8_shown wsX8_shown) := goodIn_app (goodIn_of _ (by decide +kernel)) ggL_law_X8_shown
set_option maxRecDepth 20000 in
theorem ggL_law_X9_shown : GoodIn wsL_law wsX9_shown := goodIn_r _ [1080, 257, 1081, 633, 634, 635, 5, 636, 637, 265, 266, 267, 268, 1082, 1083, 1084, 1085, 1086, 263, 140, 136, 141, 120, 606, 607, 608, 609, 610, 611, 612, 613, 123, 283, 284, 285, 286, 614, 615, 616, 617, 618, 619, 620, 621, 124, 297, 298, 299, 300, 642, 643, 644, 645, 646, 647, 648, 649, 524, 525, 526, 527, 119, 947, 948, 949, 950, 951, 940, 188, 941, 296, 198, 199, 743, 744, 745, 746, 117, 118, 1218, 1219, 1220, 1221, 1222, 1223, 1224, 1225, 1226, 1227, 1228, 1229, 1230, 1231, 1232, 1233, 1234, 1235, 1236, 1237, 1238, 1239, 1240, 1241, 1242, 1243, 1244, 1245, 1246, 1247, 1248, 1249, 1250, 1251, 1252, 1253, 1254, 1255] (by decide +kernel) (by decide +kernel)
set_option maxRecDepth 20000 in
theorem gL_law_X9_shown : GoodIn wsL_law (wsV RL 150 RX9 yX9_shown wsX9_shown) := goodIn_app (goodIn_of _ (by decide +kernel)) ggL_law_X9_shown
set_option maxRecDepth 20000 in
theorem ggL_law_X8_label : GoodIn wsL_law wsX8_label := goodIn_r _ [1090, 26, 1050, 21, 694, 1091, 626, 627, 2, 628, 1051, 1052, 1053, 1054, 15, 41, 655, 656, 657, 20, 658, 78, 659, 660, 79, 661, 599, 600, 14, 601, 51, 54, 662, 213, 214, 215, 663, 664, 665, 666, 194, 195, 188, 196, 58, 212, 667, 668, 669, 670, 83, 671, 672, 673, 80, 81, 82, 1055, 1056, 1057, 25, 1058, 1059, 88, 89, 90, 1060, 1061, 1062, 1063, 822, 823, 824, 825, 826, 827, 828, 1064, 1065, 1066, 1067, 1068, 1069, 1070, 1071, 1072, 1073, 1074, 1075, 1076, 937, 938, 939, 940, 941, 709, 198, 199, 1092, 1093, 1094, 1095, 792, 793, 794, 795, 490, 491, 492, 493, 494, 495, 496, 1206, 1207, 1208, 1209, 1210, 1211, 1212, 1213, 1214, 1215, 1216, 1217, 1277, 1278, 1279, 1271, 1272, 1273, 1274, 1275, 1276, 1256, 1257, 1258, 1259, 1260, 1261, 1262, 1263, 1264, 1265, 1266, 1267, 1268, 1269, 1270, 1288, 1289, 1290, 1291] (by decide +kernel) (by decide +kernel)
set_option maxRecDepth 20000 in
theorem gL_law_X8_label : GoodIn wsL_law (wsV RL 151 RX8 yX8_label wsX8_label) := goodIn_app (goodIn_of _ (by decide +kernel)) ggL_law_X8_label
set_option maxRecDepth 20000 in
theorem ggL_law_X9_label : GoodIn wsL_law wsX9_label := goodIn_r _ [1099, 257, 588, 1081, 141, 1086, 140, 633, 634, 635, 5, 636, 637, 265, 266, 267, 268, 1082, 1083, 1084, 1085, 263, 136, 120, 606, 607, 608, 609, 610, 611, 612, 613, 123, 283, 284, 285, 286, 614, 615, 616, 617, 618, 619, 620, 621, 124, 297, 298, 299, 300, 642, 643, 644, 645, 646, 647, 648, 649, 524, 525, 526, 527, 119, 947, 948, 949, 950, 951, 940, 188, 941, 296, 198, 199, 743, 744, 745, 746, 117, 118, 678, 679, 680, 681, 1100, 1101, 1102, 1103, 1218, 1219, 1220, 1221, 1222, 1223, 1224, 1225, 1226, 1227, 1228, 1229, 1230, 1231, 1232, 1233, 1234, 1235, 1236, 1237, 1238, 1239, 1240, 1241, 1242, 1243, 1244, 1245, 1246, 1247, 1248, 1249, 1250, 1251, 1252, 1253, 1254, 1255] (by decide +kernel) (by decide +kernel)
set_option maxRecDepth 20000 in
theorem gL_law_X9_label : GoodIn wsL_law (wsV RL 154 RX9 yX9_label wsX9_label) := goodIn_app (goodIn_of _ (by decide +kernel)) ggL_law_X9_label
set_option maxRecDepth 20000 in
theorem ggL_law_X8_counted : GoodIn wsL_law wsX8_counted := goodIn_r _ [1107, 21, 694, 26, 1108, 1050, 1091, 626, 627, 2, 628, 1051, 1052, 1053, 1054, 15, 41, 655, 656, 657, 20, 658, 78, 659, 660, 79, 661, 599, 600, 14, 601, 51, 54, 662, 213, 214, 215, 663, 664, 665, 666, 194, 195, 188, 196, 58, 212, 667, 668, 669, 670, 83, 671, 672, 673, 80, 81, 82, 1055, 1056, 1057, 25, 1058, 1059, 88, 89, 90, 1060, 1061, 1062, 1063, 822, 823, 824, 825, 826, 827, 828, 1064, 1065, 1066, 1067, 1068, 1069, 1070, 1071, 1072, 1073, 1074, 1075, 1076, 937, 938, 939, 940, 941, 709, 198, 199, 1206, 1207, 1208, 1209, 1210, 1211, 1212, 1213, 1214, 1215, 1216, 1217, 1271, 1272, 1273, 1274, 1275, 1276, 1277, 1278, 1279, 1256, 1257, 1258, 1259, 1260, 1261, 1262, 1263, 1264, 1265, 1266, 1267, 1268, 1269, 1270, 1288, 1289, 1290, 1291] (by decide +kernel) (by decide +kernel)
set_option maxRecDepth 20000 in
theorem gL_law_X8_counted : GoodIn wsL_law (wsV RL 155 RX8 yX8_counted wsX8_counted) := goodIn_app (goodIn_of _ (by decide +kernel)) ggL_law_X8_counted
set_option maxRecDepth 20000 in
theorem ggL_law_X9_counted : GoodIn wsL_law wsX9_counted := goodIn_r _ [1112, 257, 141, 735, 736, 737, 5, 738, 263, 136, 633, 634, 635, 636, 637, 265, 266, 267, 268, 606, 607, 608, 609, 610, 611, 612, 613, 123, 283, 284, 285, 286, 614, 615, 616, 617, 618, 619, 620, 621, 124, 297, 298, 299, 300, 642, 643, 644, 645, 646, 647, 648, 649, 1082, 1083, 1084, 1085, 1086, 140, 1081, 120, 524, 525, 526, 527, 119, 947, 948, 949, 950, 951, 940, 188, 941, 296, 198, 199, 743, 744, 745, 746, 117, 118, 1100, 1101, 1102, 1103, 678, 679, 680, 681, 1218, 1219, 1220, 1221, 1222, 1223, 1224, 1225, 1226, 1227, 1228, 1229, 1230, 1231, 1232, 1233, 1234, 1235, 1236, 1237, 1238, 1239, 1240, 1241, 1242, 1243, 1244, 1245, 1246, 1247, 1248, 1249, 1250, 1251, 1252, 1253, 1254, 1255] (by decide +kernel) (by decide +kernel)
set_option maxRecDepth 20000 in
theorem gL_law_X9_counted : GoodIn wsL_law (wsV RL 158 RX9 yX9_counted wsX9_counted) := goodIn_app (goodIn_of _ (by decide +kernel)) ggL_law_X9_counted
set_option maxRecDepth 20000 in
theorem ggL_law_X8_repaired : GoodIn wsL_law wsX8_repaired := goodIn_r _ [1116, 15, 16, 245, 246, 247, 14, 248, 51, 63, 249, 250, 251, 252, 1117, 1118, 1119, 1120, 54, 1121, 1122, 1123, 1124, 1206, 1207, 1208, 1209, 1210, 1211, 1212, 1213, 1214, 1215, 1216, 1217, 1256, 1257, 1258, 1259, 1260, 1261, 1262, 1263, 1264, 1265, 1266, 1267, 1268, 1269, 1270] (by decide +kernel) (by decide +kernel)
set_option maxRecDepth 20000 in
theorem gL_law_X8_repaired : GoodIn wsL_law (wsV RL 159 RX8 yX8_repaired wsX8_repaired) := goodIn_app (goodIn_of _ (by decide +kernel)) ggL_law_X8_repaired
set_option maxRecDepth 20000 in
theorem ggL_law_X9_repaired : GoodIn wsL_law wsX9_repaired := goodIn_r _ [1128, 257, 123, 317, 318, 319, 5, 320, 283, 284, 285, 286, 263, 321, 322, 323, 324, 278, 325, 326, 327, 328, 277, 329, 330, 331, 332, 121, 122, 132, 133, 279, 280, 281, 282, 118, 117, 1129, 1130, 1131, 1132, 134, 1133, 1134, 1135, 1136, 1137, 1138, 1139, 1140, 1218, 1219, 1220, 1221, 1222, 1223, 1224, 1225, 1226, 1227, 1228, 1229, 1230, 1231, 1232, 1233, 1234, 1235, 1236, 1237, 1238, 1239, 1240, 1241, 1242, 1243, 1244, 1245, 1246, 1247, 1248, 1249, 1250, 1251, 1252, 1253, 1254, 1255] (by decide +kernel) (by decide +kernel)
set_option maxRecDepth 20000 in
theorem gL_law_X9_repaired : GoodIn wsL_law (wsV RL 162 RX9 yX9_repaired wsX9_repaired) := goodIn_app (goodIn_of _ (by decide +kernel)) ggL_law_X9_repaired
set_option maxRecDepth 20000 in
theorem ggL_law_X8_would : GoodIn wsL_law wsX8_would := goodIn_r _ [1144, 15, 149, 1145, 17, 153, 154, 155, 49, 156, 70, 157, 158, 159, 160, 71, 72, 165, 166, 167, 168, 73, 169, 170, 171, 172, 173, 174, 175, 176, 177, 178, 179, 14, 180, 50, 181, 65, 62, 51, 182, 183, 184, 185, 64, 186, 187, 188, 189, 190, 191, 192, 193, 194, 195, 196, 197, 198, 199, 200, 201, 202, 203, 204, 205, 206, 207, 208, 209, 210, 211, 212, 213, 214, 215, 216, 217, 218, 219, 53, 220, 221, 222, 223, 224, 54, 55, 56, 57, 63, 59, 60, 58, 61, 225, 226, 227, 228, 229, 230, 231, 232, 233, 234, 235, 236, 237, 238, 239, 240, 241, 242, 243, 244, 245, 246, 247, 248, 249, 250, 251, 252, 1117, 1118, 1119, 1120, 1206, 1207, 1208, 1209, 1210, 1211, 1212, 1213, 1214, 1215, 1216, 1217, 1256, 1257, 1258, 1259, 1260, 1261, 1262, 1263, 1264, 1265, 1266, 1267, 1268, 1269, 1270, 1288, 1289, 1290, 1291] (by decide +kernel) (by decide +kernel)
set_option maxRecDepth 20000 in
theorem gL_law_X8_would : GoodIn wsL_law (wsV RL 163 RX8 yX8_would wsX8_would) := goodIn_app (goodIn_of _ (by decide +kernel)) ggL_law_X8_would
set_option maxRecDepth 20000 in
theorem ggL_law_X9_would : GoodIn wsL_law wsX9_would := goodIn_r _ [1149, 257, 1150, 142, 121, 143, 122, 259, 260, 261, 5, 262, 263, 264, 265, 266, 267, 268, 269, 270, 271, 272, 117, 118, 283, 284, 285, 286, 1151, 1152, 1153, 1154, 123, 279, 280, 281, 282, 287, 288, 289, 290, 119, 291, 292, 293, 294, 295, 195, 188, 196, 296, 198, 199, 297, 298, 299, 300, 301, 302, 303, 304, 305, 306, 307, 308, 309, 310, 311, 312, 129, 130, 128, 127, 125, 126, 124, 313, 314, 315, 316, 354, 355, 356, 357, 1218, 1219, 1220, 1221, 1222, 1223, 1224, 1225, 1226, 1227, 1228, 1229, 1230, 1231, 1232, 1233, 1234, 1235, 1236, 1237, 1238, 1239, 1240, 1241, 1242, 1243, 1244, 1245, 1246, 1247, 1248, 1249, 1250, 1251, 1252, 1253, 1254, 1255] (by decide +kernel) (by decide +kernel)
set_option maxRecDepth 20000 in
theorem gL_law_X9_would : GoodIn wsL_law (wsV RL 166 RX9 yX9_would wsX9_would) := goodIn_app (goodIn_of _ (by decide +kernel)) ggL_law_X9_would
set_option maxRecDepth 20000 in
theorem ggL_law_X8_stirred : GoodIn wsL_law wsX8_stirred := goodIn_r _ [1158, 21, 15, 22, 16, 149, 341, 40, 418, 419, 654, 626, 627, 2, 628, 655, 656, 657, 20, 658, 78, 659, 660, 79, 661, 599, 600, 14, 601, 51, 54, 662, 213, 214, 215, 663, 664, 665, 666, 194, 195, 188, 196, 58, 212, 667, 668, 669, 670, 83, 671, 672, 673, 80, 81, 82, 450, 158, 159, 49, 160, 70, 71, 72, 1206, 1207, 1208, 1209, 1210, 1211, 1212, 1213, 1214, 1215, 1216, 1217, 1256, 1257, 1258, 1259, 1260, 1261, 1262, 1263, 1264, 1265, 1266, 1267, 1268, 1269, 1270, 1288, 1289, 1290, 1291, 1271, 1272, 1273, 1274, 1275, 1276] (by decide +kernel) (by decide +kernel)
set_option maxRecDepth 20000 in
theorem gL_law_X8_stirred : GoodIn wsL_law (wsV RL 167 RX8 yX8_stirred wsX8_stirred) := goodIn_app (goodIn_of _ (by decide +kernel)) ggL_law_X8_stirred
set_option maxRecDepth 20000 in
theorem ggL_law_X9_stirred : GoodIn wsL_law wsX9_stirred := goodIn_r _ [1162, 257, 278, 277, 131, 136, 144, 633, 634, 635, 5, 636, 637, 265, 266, 267, 268, 1163, 1164, 1165, 1166, 134, 132, 133, 325, 326, 327, 328, 614, 615, 616, 617, 606, 607, 608, 609, 610, 611, 612, 613, 123, 283, 284, 285, 286, 263, 618, 619, 620, 621, 124, 297, 298, 299, 300, 1167, 1168, 1169, 1170, 269, 270, 271, 272, 117, 118, 1218, 1219, 1220, 1221, 1222, 1223, 1224, 1225, 1226, 1227, 1228, 1229, 1230, 1231, 1232, 1233, 1234, 1235, 1236, 1237, 1238, 1239, 1240, 1241, 1242, 1243, 1244, 1245, 1246, 1247, 1248, 1249, 1250, 1251, 1252, 1253, 1254, 1255] (by decide +kernel) (by decide +kernel)
set_option maxRecDepth 20000 in
theorem gL_law_X9_stirred : GoodIn wsL_law (wsV RL 170 RX9 yX9_stirred wsX9_stirred) := goodIn_app (goodIn_of _ (by decide +kernel)) ggL_law_X9_stirred
set_option maxRecDepth 20000 in
theorem ggL_law_X8_look : GoodIn wsL_law wsX8_look := goodIn_r _ [1174, 15, 149, 341, 41, 42, 1175, 1061, 214, 1062, 497, 498, 499, 49, 500, 70, 73, 501, 213, 215, 1117, 1118, 1119, 14, 1120, 51, 54, 1176, 1177, 1178, 1179, 55, 726, 727, 728, 729, 730, 198, 188, 199, 424, 201, 202, 203, 71, 72, 204, 205, 206, 207, 1180, 1181, 1182, 1183, 50, 181, 197, 1184, 431, 432, 433, 56, 57, 1185, 1186, 1187, 2, 1188, 1189, 623, 624, 625, 626, 627, 628, 598, 599, 600, 601, 1206, 1207, 1208, 1209, 1210, 1211, 1212, 1213, 1214, 1215, 1216, 1217, 1256, 1257, 1258, 1259, 1260, 1261, 1262, 1263, 1264, 1265, 1266, 1267, 1268, 1269, 1270, 1288, 1289, 1290, 1291] (by decide +kernel) (by decide +kernel)
set_option maxRecDepth 20000 in
theorem gL_law_X8_look : GoodIn wsL_law (wsV RL 171 RX8 yX8_look wsX8_look) := goodIn_app (goodIn_of _ (by decide +kernel)) ggL_law_X8_look
set_option maxRecDepth 20000 in
theorem ggL_law_X9_look : GoodIn wsL_law wsX9_look := goodIn_r _ [1193, 257, 263, 120, 387, 524, 525, 526, 5, 527, 119, 297, 298, 299, 300, 1151, 1152, 1153, 1154, 123, 283, 284, 285, 286, 1194, 1195, 1196, 1197, 532, 533, 534, 535, 759, 760, 761, 762, 296, 198, 188, 199, 305, 306, 307, 308, 117, 118, 1198, 1199, 1200, 1201, 438, 439, 440, 441, 121, 122, 1202, 1203, 1204, 1205, 606, 607, 608, 609, 610, 611, 612, 613, 614, 615, 616, 617, 618, 619, 620, 621, 136, 124, 638, 639, 640, 641, 642, 643, 644, 645, 646, 647, 648, 649, 1218, 1219, 1220, 1221, 1222, 1223, 1224, 1225, 1226, 1227, 1228, 1229, 1230, 1231, 1232, 1233, 1234, 1235, 1236, 1237, 1238, 1239, 1240, 1241, 1242, 1243, 1244, 1245, 1246, 1247, 1248, 1249, 1250, 1251, 1252, 1253, 1254, 1255] (by decide +kernel) (by decide +kernel)
set_option maxRecDepth 20000 in
theorem gL_law_X9_look : GoodIn wsL_law (wsV RL 174 RX9 yX9_look wsX9_look) := goodIn_app (goodIn_of _ (by decide +kernel)) ggL_law_X9_look
abbrev vwCl : List vw_C := [(RX0, TX0, 3), (RX1, TX1, 5), (RX2, TX2, 15), (RX3, TX3, 2), (RX4, TX4, 4), (RX5, TX5, 6), (RX7, TX7, 1), (RX8, TX8, 12), (RX9, TX9, 38)]
/-! ===== END printed: names ===== -/
