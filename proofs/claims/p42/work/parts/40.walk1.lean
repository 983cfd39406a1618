/-! ===== p42: the law's walk ===== -/
section GGS
variable {X : GX} {cI cJ cZ cY : ClassId} {a a' pc p1 p2 : Nat} {lv lv1 lv2 : List (Nat × Value)} {st st1 st2 : List Value} {h g : OB}
theorem gg1 (f : ∀ ws, G X p1 lv1 st1 ws → G X pc lv st ws) (k : GW X cI cJ cZ cY a a' p1 lv1 st1 h g) : GW X cI cJ cZ cY a a' pc lv st h g := fun ad rw ca cl ci fr ad' rw' ca' cl' ci' fr' ha ha' hh hg => f _ (k ad rw ca cl ci fr ad' rw' ca' cl' ci' fr' ha ha' hh hg)
theorem gg2 {P Q : Prop} (f : ∀ ws, (P → G X p1 lv1 st1 ws) → (Q → G X p2 lv2 st2 ws) → G X pc lv st ws) (k1 : P → GW X cI cJ cZ cY a a' p1 lv1 st1 h g) (k2 : Q → GW X cI cJ cZ cY a a' p2 lv2 st2 h g) : GW X cI cJ cZ cY a a' pc lv st h g := fun ad rw ca cl ci fr ad' rw' ca' cl' ci' fr' ha ha' hh hg => f _ (fun q => k1 q ad rw ca cl ci fr ad' rw' ca' cl' ci' fr' ha ha' hh hg) (fun q => k2 q ad rw ca cl ci fr ad' rw' ca' cl' ci' fr' ha ha' hh hg)
theorem gg_ok (k : OKO h → OKO g → GW X cI cJ cZ cY a a' pc lv st h g) : GW X cI cJ cZ cY a a' pc lv st h g := fun ad rw ca cl ci fr ad' rw' ca' cl' ci' fr' ha ha' hh hg => k (ok8_M hh) (ok8_M hg) ad rw ca cl ci fr ad' rw' ca' cl' ci' fr' ha ha' hh hg
end GGS
theorem is_k {v : Int32} {h : OB} {R : Int32 → OB → Prop} (k : R v h) : ∀ (x : Int32) (o : OB), IS v h x o → R x o := by
  intro x o e
  obtain ⟨rfl, rfl⟩ := e
  exact k
/-- the i-th of those of which t holds -/
def nthT (t : Nat → Bool) (N i : Nat) : Nat := match fstB (fun q => t q && decide (cntB t q = i)) N with
  | some q => q
  | none => 0
theorem nthT_of {t : Nat → Bool} {N q : Nat} (hq : q < N) (h : t q = true) : nthT t N (cntB t q) = q := by
  have e : fstB (fun r => t r && decide (cntB t r = cntB t q)) N = some q := fstB_some.mpr ⟨hq, by rw [h]; exact decide_eq_true rfl, fun j hj => by
    by_cases e : t j = true
    · have x := m_lt hj e
      rw [e, Bool.true_and]
      exact decide_eq_false (fun f => by omega)
    · rw [Bool.not_eq_true _ |>.mp e, Bool.false_and]⟩
  unfold nthT
  rw [e]
theorem head_k {s : Nat → Nat} {N k : Nat} (h : k < cntB (hdB s) N) : ∃ p, p < N ∧ hdB s p = true ∧ ixB s p = k ∧ nthT (hdB s) N k = p := by
  obtain ⟨p, p1, p2, p3⟩ := m_nth h
  exact ⟨p, p1, p2, p3, by rw [← p3]; exact nthT_of p1 p2⟩
def szF (X Y : Nat → Nat) (N z k : Nat) : Nat := cntB (szB X Y N z (nthT (hdB (szB X Y N z)) N k)).testBit 24
def wtF (X Y W : Nat → Nat) (N z k : Nat) : Nat := wtB W (szB X Y N z (nthT (hdB (szB X Y N z)) N k)) N
def spF (X Y : Nat → Nat) (N z k : Nat) : Nat := if z < 10 then spN X Y N z (nthT (hdB (szB X Y N z)) N k) else 0
def sbF (X Y W : Nat → Nat) (N z p i : Nat) : Nat := wtB W (szB X Y N (z + 1) (nthT (inQ (szB X Y N z p) (szB X Y N (z + 1))) N i)) N
theorem sum_sz {X Y : Nat → Nat} {N z : Nat} (hN : N ≤ 24) : sumB (szF X Y N z) (grN X Y N z) = N :=
  (m_ensum (t := hdB (szB X Y N z)) (f := szF X Y N z) (g := fun p => cntB (szB X Y N z p).testBit 24) (N := N) (fun q hq h => by unfold szF; rw [nthT_of hq h]) N (Nat.le_refl N)).trans (m_sizes hN (szB_part hN))
theorem sum_wt {X Y W : Nat → Nat} {N z : Nat} (hN : N ≤ 24) : sumB (wtF X Y W N z) (grN X Y N z) = sumB W N :=
  (m_ensum (t := hdB (szB X Y N z)) (f := wtF X Y W N z) (g := fun p => wtB W (szB X Y N z p) N) (N := N) (fun q hq h => by unfold wtF; rw [nthT_of hq h]) N (Nat.le_refl N)).trans (m_weights hN (szB_part hN))
theorem sum_sp {X Y : Nat → Nat} {N z : Nat} (hN : N ≤ 24) (hz : z < 10) : sumB (spF X Y N z) (grN X Y N z) = grN X Y N (z + 1) :=
  (m_ensum (t := hdB (szB X Y N z)) (f := spF X Y N z) (g := fun p => cntB (inQ (szB X Y N z p) (szB X Y N (z + 1))) N) (N := N) (fun q hq h => by unfold spF; rw [if_pos hz, nthT_of hq h]; rfl) N (Nat.le_refl N)).trans (m_splits hN (szB_part hN))
theorem sum_sb {X Y W : Nat → Nat} {N z p : Nat} (hN : N ≤ 24) (hp : p < N) : sumB (sbF X Y W N z p) (spN X Y N z p) = wtB W (szB X Y N z p) N :=
  (m_ensum (t := inQ (szB X Y N z p) (szB X Y N (z + 1))) (f := sbF X Y W N z p) (g := fun q => wtB W (szB X Y N (z + 1) q) N) (N := N) (fun q hq h => by unfold sbF; rw [nthT_of hq h]) N (Nat.le_refl N)).trans (m_sub hN hp)
theorem gr_le {X Y : Nat → Nat} {N z : Nat} : grN X Y N z ≤ N := cntB_le _ _
theorem sumW_le {W : Nat → Nat} {N : Nat} (hN : N ≤ 24) (hW : ∀ i, i < N → W i ≤ 99) : sumB W N ≤ 2376 := by
  have a := sumB_le hW
  have b := Nat.mul_le_mul_right 99 hN
  omega
set_option maxRecDepth 100000 in
set_option maxHeartbeats 4000000 in
theorem w_loop1 {X : GX} {l0 : Launch} {D0 : va_G} {cI cJ cZ cY : ClassId} (S : Sx X cL_law TsL RL 15 room_1 (TYS cI cJ cZ cY) D0 l0) {b L : Nat} {xs : Nat → Int32} (hXs : Xs X b L xs) (hL : L ≤ 260) {a a' : Nat} {F m : Nat} (hF : 5000 ≤ F) (hm : m < 25) {g : OB} (k : ∀ h : OB, GW X cI cJ cZ cY a a' 43 [(0, .ref b), (1, .ref a), (2, .ref a'), (3, .int (nI m)), (4, .int (nI m))] [] h g) : ∀ (d i : Nat), i + d = m → ∀ h : OB, GW X cI cJ cZ cY a a' 24 [(0, .ref b), (1, .ref a), (2, .ref a'), (3, .int (nI m)), (4, .int (nI i))] [] h g := by
  intro d
  induction d with
  | zero =>
    intro i hi h
    have e : i = m := by omega
    subst e
    refine gg1 (fun ws kG => r_iload S dL_law_24 4 rfl kG) ?_
    refine gg1 (fun ws kG => r_iload_n S dL_law_26 rfl 3 rfl kG) ?_
    refine gg2 (fun ws kt kf => r_icmp_ge 43 S dL_law_27 (by decide) kt kf) (fun c => ?_) (fun c => absurd (show nI i ≤ nI i from Int32.le_refl _) c)
    exact k h
  | succ d ih =>
    intro i hi h
    refine gg1 (fun ws kG => r_iload S dL_law_24 4 rfl kG) ?_
    refine gg1 (fun ws kG => r_iload_n S dL_law_26 rfl 3 rfl kG) ?_
    refine gg2 (fun ws kt kf => r_icmp_ge 43 S dL_law_27 (by decide) kt kf) (fun c => absurd c (show ¬ nI m ≤ nI i by rw [nI_leE (by omega) (by omega)]; omega)) (fun c => ?_)
    refine gg1 (fun ws kG => r_aload_n S dL_law_30 rfl 1 rfl kG) ?_
    refine gg1 (fun ws kG => r_aload_n S dL_law_31 rfl 0 rfl kG) ?_
    refine gg1 (fun ws kG => r_iload S dL_law_32 4 rfl kG) ?_
    obtain ⟨N, X1, Y1, W1⟩ := h
    refine gg_comes S hXs hL (k := i) (by omega) (ans_add_any hF _ _ _) dL_law_34 (fun v o _ => ?_)
    refine gg1 (fun ws kG => r_iincc S dL_law_37 4 rfl (c0 := (1 : Int32)) rfl (nI_add i 1) (Nat.le_of_ble_eq_true rfl) (lv' := [(4, .int (nI (i + 1))), (0, .ref b), (1, .ref a), (2, .ref a'), (3, .int (nI m))]) rfl kG) ?_
    refine gg1 (fun ws kG => r_goto 24 S dL_law_40 (by decide) kG) ?_
    refine gg1 (fun ws kG => r_lv [1, 2, 3, 4, 0] (lv' := [(0, .ref b), (1, .ref a), (2, .ref a'), (3, .int (nI m)), (4, .int (nI (i + 1)))]) rfl kG) ?_
    exact ih (i + 1) (by omega) o
set_option maxRecDepth 100000 in
set_option maxHeartbeats 4000000 in
theorem w_loop3 {X : GX} {l0 : Launch} {D0 : va_G} {cI cJ cZ cY : ClassId} (S : Sx X cL_law TsL RL 15 room_1 (TYS cI cJ cZ cY) D0 l0) {b L : Nat} {xs : Nat → Int32} (hXs : Xs X b L xs) (hL : L ≤ 260) {a a' : Nat} {F N : Nat} {X1 Y1 W1 : Nat → Nat} {m3 : Int32} (hF : 5000 ≤ F) {K p k : Nat} {U V Z : Nat → Nat} (gh : OKM N X1 Y1 W1) (gk : OKM K U V Z) (hKN : K < N) (hp : p < N) (k3 : ∀ w, w < N → (∀ r, r < K → ¬ (U r = X1 w ∧ V r = Y1 w)) → GW X cI cJ cZ cY a a' 179 [(0, .ref b), (1, .ref a), (2, .ref a'), (3, .int m3), (4, .int (nI N)), (5, .int (nI k))] [] (N, X1, Y1, W1) (insO K U V Z (X1 w) (Y1 w) (W1 w))) : ∀ (d q : Nat), q + d = N → (∀ q2, q2 < q → ∃ j, j < K ∧ U j = X1 ((p + q2) % N) ∧ V j = Y1 ((p + q2) % N)) → GW X cI cJ cZ cY a a' 89 [(0, .ref b), (1, .ref a), (2, .ref a'), (3, .int m3), (4, .int (nI N)), (5, .int (nI k)), (6, .int (nI p)), (7, .int 0), (8, .int (nI q))] [] (N, X1, Y1, W1) (K, U, V, Z) := by
  have hN : N ≤ 24 := gh.1.1
  intro d
  induction d with
  | zero =>
    intro q hq inv
    exact False.elim (sub_lack gh.1 gk.1 hKN (fun w hw => by
      obtain ⟨q2, a2, e2⟩ := turn_all hp hw
      have t := inv q2 (by omega)
      rw [e2] at t
      exact t))
  | succ d ih =>
    intro q hq inv
    obtain ⟨w, hwe, hw⟩ : ∃ w, (p + q) % N = w ∧ w < N := ⟨_, rfl, Nat.mod_lt _ (by omega)⟩
    have x1 := gh.1.2.1 w hw
    have x2 := gh.1.2.2.1 w hw
    have A := ans_at (F := F) (N := K) (X := U) (Y := V) (W := Z) (x := X1 w) (y := Y1 w) hF (by omega) (by omega)
    cases ha : atB K U V (X1 w) (Y1 w) with
    | some j =>
      have ⟨j1, j2, j3⟩ := at_some ha
      have jK : j < 24 := by have := gk.1.1; omega
      rw [ha] at A
      replace A : Ans_at F (K, U, V, Z) (nI (X1 w)) (nI (Y1 w)) (IS (nI j) (K, U, V, Z)) := A
      refine gg1 (fun ws kG => r_iload S dL_law_89 8 rfl kG) ?_
      refine gg1 (fun ws kG => r_iload S dL_law_91 4 rfl kG) ?_
      refine gg2 (fun ws kt kf => r_icmp_ge 172 S dL_law_93 (by decide) kt kf) (fun c => absurd c (show ¬ nI N ≤ nI q by rw [nI_leE (by omega) (by omega)]; omega)) (fun c => ?_)
      refine gg1 (fun ws kG => r_iload S dL_law_96 6 rfl kG) ?_
      refine gg1 (fun ws kG => r_iload S dL_law_98 8 rfl kG) ?_
      refine gg1 (fun ws kG => r_iadd S dL_law_100 kG) ?_
      refine gg1 (fun ws kG => r_topI (y := (nI (p + q))) (by rw [nI_add]) kG) ?_
      refine gg1 (fun ws kG => r_iload S dL_law_101 4 rfl kG) ?_
      refine gg1 (fun ws kG => r_irem S dL_law_103 (show ¬ nI N = 0 by rw [nI_eq0 (by omega)]; omega) kG) ?_
      refine gg1 (fun ws kG => r_topI (y := (nI w)) (by rw [pk_rem (by omega) (by omega) (by omega), hwe]) kG) ?_
      refine gg1 (fun ws kG => r_istore S dL_law_104 (Nat.le_of_ble_eq_true rfl) (lv' := [(9, .int (nI w)), (0, .ref b), (1, .ref a), (2, .ref a'), (3, .int m3), (4, .int (nI N)), (5, .int (nI k)), (6, .int (nI p)), (7, .int 0), (8, .int (nI q))]) rfl kG) ?_
      refine gg1 (fun ws kG => r_aload_n S dL_law_106 rfl 3 rfl kG) ?_
      refine gg1 (fun ws kG => r_aload_n S dL_law_107 rfl 2 rfl kG) ?_
      refine gg1 (fun ws kG => r_iload S dL_law_108 0 rfl kG) ?_
      refine gg1 (fun ws kG => r_iconst (v := (0 : Int32)) S dL_law_110 rfl kG) ?_
      refine gg_point_h S (ans_point0 (F := F) hw) (Nat.le_of_ble_eq_true rfl) dL_law_111 (is_k ?_)
      refine gg1 (fun ws kG => r_aload_n S dL_law_114 rfl 2 rfl kG) ?_
      refine gg1 (fun ws kG => r_iload S dL_law_115 0 rfl kG) ?_
      refine gg1 (fun ws kG => r_iconst (v := (1 : Int32)) S dL_law_117 rfl kG) ?_
      refine gg_point_h S (ans_point1 (F := F) hw) (Nat.le_of_ble_eq_true rfl) dL_law_118 (is_k ?_)
      refine gg_at_g S A (Nat.le_of_ble_eq_true rfl) dL_law_121 (is_k ?_)
      refine gg2 (fun ws kt kf => r_if_lt 130 S dL_law_124 (by decide) kt kf) (fun c => absurd c (show ¬ nI j < 0 by rw [nI_lt0 (by omega)]; exact id)) (fun c => ?_)
      refine gg1 (fun ws kG => r_goto 166 S dL_law_127 (by decide) kG) ?_
      refine gg1 (fun ws kG => r_iincc S dL_law_166 9 rfl (c0 := (1 : Int32)) rfl (nI_add q 1) (Nat.le_of_ble_eq_true rfl) (lv' := [(8, .int (nI (q + 1))), (9, .int (nI w)), (0, .ref b), (1, .ref a), (2, .ref a'), (3, .int m3), (4, .int (nI N)), (5, .int (nI k)), (6, .int (nI p)), (7, .int 0)]) rfl kG) ?_
      refine gg1 (fun ws kG => r_goto 89 S dL_law_169 (by decide) kG) ?_
      refine gg1 (fun ws kG => r_lv [2, 3, 4, 5, 6, 7, 8, 9, 0] (lv' := [(0, .ref b), (1, .ref a), (2, .ref a'), (3, .int m3), (4, .int (nI N)), (5, .int (nI k)), (6, .int (nI p)), (7, .int 0), (8, .int (nI (q + 1)))]) rfl kG) ?_
      refine ih (q + 1) (by omega) (fun q2 h2 => ?_)
      by_cases e2 : q2 = q
      · rw [e2, hwe]; exact ⟨j, j1, j2, j3⟩
      · exact inv q2 (by omega)
    | none =>
      rw [ha] at A
      replace A : Ans_at F (K, U, V, Z) (nI (X1 w)) (nI (Y1 w)) (IS (-1 : Int32) (K, U, V, Z)) := A
      refine gg1 (fun ws kG => r_iload S dL_law_89 8 rfl kG) ?_
      refine gg1 (fun ws kG => r_iload S dL_law_91 4 rfl kG) ?_
      refine gg2 (fun ws kt kf => r_icmp_ge 172 S dL_law_93 (by decide) kt kf) (fun c => absurd c (show ¬ nI N ≤ nI q by rw [nI_leE (by omega) (by omega)]; omega)) (fun c => ?_)
      refine gg1 (fun ws kG => r_iload S dL_law_96 6 rfl kG) ?_
      refine gg1 (fun ws kG => r_iload S dL_law_98 8 rfl kG) ?_
      refine gg1 (fun ws kG => r_iadd S dL_law_100 kG) ?_
      refine gg1 (fun ws kG => r_topI (y := (nI (p + q))) (by rw [nI_add]) kG) ?_
      refine gg1 (fun ws kG => r_iload S dL_law_101 4 rfl kG) ?_
      refine gg1 (fun ws kG => r_irem S dL_law_103 (show ¬ nI N = 0 by rw [nI_eq0 (by omega)]; omega) kG) ?_
      refine gg1 (fun ws kG => r_topI (y := (nI w)) (by rw [pk_rem (by omega) (by omega) (by omega), hwe]) kG) ?_
      refine gg1 (fun ws kG => r_istore S dL_law_104 (Nat.le_of_ble_eq_true rfl) (lv' := [(9, .int (nI w)), (0, .ref b), (1, .ref a), (2, .ref a'), (3, .int m3), (4, .int (nI N)), (5, .int (nI k)), (6, .int (nI p)), (7, .int 0), (8, .int (nI q))]) rfl kG) ?_
      refine gg1 (fun ws kG => r_aload_n S dL_law_106 rfl 3 rfl kG) ?_
      refine gg1 (fun ws kG => r_aload_n S dL_law_107 rfl 2 rfl kG) ?_
      refine gg1 (fun ws kG => r_iload S dL_law_108 0 rfl kG) ?_
      refine gg1 (fun ws kG => r_iconst (v := (0 : Int32)) S dL_law_110 rfl kG) ?_
      refine gg_point_h S (ans_point0 (F := F) hw) (Nat.le_of_ble_eq_true rfl) dL_law_111 (is_k ?_)
      refine gg1 (fun ws kG => r_aload_n S dL_law_114 rfl 2 rfl kG) ?_
      refine gg1 (fun ws kG => r_iload S dL_law_115 0 rfl kG) ?_
      refine gg1 (fun ws kG => r_iconst (v := (1 : Int32)) S dL_law_117 rfl kG) ?_
      refine gg_point_h S (ans_point1 (F := F) hw) (Nat.le_of_ble_eq_true rfl) dL_law_118 (is_k ?_)
      refine gg_at_g S A (Nat.le_of_ble_eq_true rfl) dL_law_121 (is_k ?_)
      refine gg2 (fun ws kt kf => r_if_lt 130 S dL_law_124 (by decide) kt kf) (fun c => ?_) (fun c => absurd (show (-1 : Int32) < 0 by rw [m1_lt0]; trivial) c)
      refine gg1 (fun ws kG => r_aload_n S dL_law_130 rfl 3 rfl kG) ?_
      refine gg1 (fun ws kG => r_aload_n S dL_law_131 rfl 2 rfl kG) ?_
      refine gg1 (fun ws kG => r_iload S dL_law_132 0 rfl kG) ?_
      refine gg1 (fun ws kG => r_iconst (v := (0 : Int32)) S dL_law_134 rfl kG) ?_
      refine gg_point_h S (ans_point0 (F := F) hw) (Nat.le_of_ble_eq_true rfl) dL_law_135 (is_k ?_)
      refine gg1 (fun ws kG => r_aload_n S dL_law_138 rfl 2 rfl kG) ?_
      refine gg1 (fun ws kG => r_iload S dL_law_139 0 rfl kG) ?_
      refine gg1 (fun ws kG => r_iconst (v := (1 : Int32)) S dL_law_141 rfl kG) ?_
      refine gg_point_h S (ans_point1 (F := F) hw) (Nat.le_of_ble_eq_true rfl) dL_law_142 (is_k ?_)
      refine gg1 (fun ws kG => r_aload_n S dL_law_145 rfl 2 rfl kG) ?_
      refine gg1 (fun ws kG => r_iload S dL_law_146 0 rfl kG) ?_
      refine gg1 (fun ws kG => r_iconst (v := (2 : Int32)) S dL_law_148 rfl kG) ?_
      refine gg_point_h S (ans_point2 (F := F) hw) (Nat.le_of_ble_eq_true rfl) dL_law_149 (is_k ?_)
      refine gg_add_g S (ans_add hF (show K < 24 by omega) x1.1 x1.2 x2 (at_none ha)) (Nat.le_of_ble_eq_true rfl) dL_law_152 (fun v o e => ?_)
      obtain ⟨hv, rfl⟩ := e
      refine gg2 (fun ws kt kf => r_if_ge 160 S dL_law_155 (by decide) kt kf) (fun c => ?_) (fun c => absurd (show (0 : Int32) ≤ v by rw [tI_le, i_0]; exact hv) c)
      refine gg1 (fun ws kG => r_iconst (v := (1 : Int32)) S dL_law_160 rfl kG) ?_
      refine gg1 (fun ws kG => r_istore S dL_law_161 (Nat.le_of_ble_eq_true rfl) (lv' := [(7, .int (1 : Int32)), (9, .int (nI w)), (0, .ref b), (1, .ref a), (2, .ref a'), (3, .int m3), (4, .int (nI N)), (5, .int (nI k)), (6, .int (nI p)), (8, .int (nI q))]) rfl kG) ?_
      refine gg1 (fun ws kG => r_goto 172 S dL_law_163 (by decide) kG) ?_
      refine gg1 (fun ws kG => r_iload S dL_law_172 0 rfl kG) ?_
      refine gg2 (fun ws kt kf => r_if_ne 179 S dL_law_174 (by decide) kt kf) (fun c => ?_) (fun c => absurd c (show ¬ (1 : Int32) = 0 by decide +kernel))
      refine gg1 (fun ws kG => r_lv [2, 3, 4, 5, 6, 7] (lv' := [(0, .ref b), (1, .ref a), (2, .ref a'), (3, .int m3), (4, .int (nI N)), (5, .int (nI k))]) rfl kG) ?_
      exact k3 w hw (at_none ha)
set_option maxRecDepth 100000 in
set_option maxHeartbeats 4000000 in
theorem e1000 : (1000 : Int32) = nI 1000 := rfl

set_option maxRecDepth 100000 in
set_option maxHeartbeats 4000000 in
theorem w_mid {X : GX} {l0 : Launch} {D0 : va_G} {cI cJ cZ cY : ClassId} (S : Sx X cL_law TsL RL 15 room_1 (TYS cI cJ cZ cY) D0 l0) {b L : Nat} {xs : Nat → Int32} (hXs : Xs X b L xs) (hL : L ≤ 260) {a a' : Nat} {F N : Nat} {X1 Y1 W1 : Nat → Nat} {m3 : Int32} (hF : 5000 ≤ F) {K k : Nat} {U V Z : Nat → Nat} (hN : N ≤ 24) (gk : OKM K U V Z) (hk : k < 100) (k4 : GW X cI cJ cZ cY a a' 262 [(0, .ref b), (1, .ref a), (2, .ref a'), (3, .int m3), (4, .int (nI N)), (5, .int (nI k))] [] (N, X1, Y1, W1) (K, U, V, Z)) : GW X cI cJ cZ cY a a' 179 [(0, .ref b), (1, .ref a), (2, .ref a'), (3, .int m3), (4, .int (nI N)), (5, .int (nI k))] [] (N, X1, Y1, W1) (K, U, V, Z) := by
  have hK24 := gk.1.1
  refine gg1 (fun ws kG => r_aload_n S dL_law_179 rfl 2 rfl kG) ?_
  refine gg1 (fun ws kG => r_iconst (v := (0 : Int32)) S dL_law_180 rfl kG) ?_
  refine gg_look_g S (ans_look0 (F := F) (X := U) (Y := V) (W := Z)) (Nat.le_of_ble_eq_true rfl) dL_law_181 (is_k ?_)
  refine gg1 (fun ws kG => r_bipush (v := (24 : Int32)) S dL_law_184 rfl kG) ?_
  refine gg2 (fun ws kt kf => r_icmp_ge 262 S dL_law_186 (by decide) kt kf) (fun c => ?_) (fun c => ?_)
  · exact k4
  · have hK : K < 24 := by
      rw [c24, nI_leE (by omega) (by omega)] at c
      omega
    refine gg1 (fun ws kG => r_aload_n S dL_law_189 rfl 0 rfl kG) ?_
    refine gg1 (fun ws kG => r_bipush (v := (61 : Int32)) S dL_law_190 rfl kG) ?_
    refine gg1 (fun ws kG => r_iload S dL_law_192 5 rfl kG) ?_
    refine gg1 (fun ws kG => r_iadd S dL_law_194 kG) ?_
    refine gg1 (fun ws kG => r_topI (y := (nI (61 + k))) (by rw [show (61 : Int32) = nI 61 from rfl, nI_add]) kG) ?_
    refine gg1 (fun ws kG => r_cix S hXs (c_cell l0 D0 cI cJ cZ cY hL (nn_k (by omega))) (gS u115 u116 u113 u117) ok_Lcell ⟨rfl, rfl⟩ ⟨Nat.le_of_ble_eq_true rfl, Nat.le_of_ble_eq_true rfl⟩ (As := [.ref b, .int (nI (61 + k))]) (rest := []) rfl rfl (Nat.le_of_ble_eq_true rfl) dL_law_195 kG) ?_
    refine gg1 (fun ws kG => r_iconst (v := (3 : Int32)) S dL_law_198 rfl kG) ?_
    refine gg1 (fun ws kG => r_iand S dL_law_199 kG) ?_
    refine gg2 (fun ws kt kf => r_if_ne 262 S dL_law_200 (by decide) kt kf) (fun c => ?_) (fun c => ?_)
    · exact k4
    · have A := ans_at (F := F) (N := K) (X := U) (Y := V) (W := Z) (x := 1000) (y := 1000) hF (by omega) (by omega)
      have B := ans_at (F := F) (N := N) (X := X1) (Y := Y1) (W := W1) (x := 1000) (y := 1000) hF (by omega) (by omega)
      rw [← e1000] at A B
      cases ha : atB K U V 1000 1000 with
      | some j =>
        have j1 := (at_some ha).1
        rw [ha] at A
        replace A : Ans_at F (K, U, V, Z) (1000 : Int32) (1000 : Int32) (IS (nI j) (K, U, V, Z)) := A
        refine gg1 (fun ws kG => r_aload_n S dL_law_203 rfl 2 rfl kG) ?_
        refine gg1 (fun ws kG => r_sipush (v := (1000 : Int32)) S dL_law_204 rfl kG) ?_
        refine gg1 (fun ws kG => r_sipush (v := (1000 : Int32)) S dL_law_207 rfl kG) ?_
        refine gg_at_g S A (Nat.le_of_ble_eq_true rfl) dL_law_210 (is_k ?_)
        refine gg2 (fun ws kt kf => r_if_ge 262 S dL_law_213 (by decide) kt kf) (fun c => ?_) (fun c => absurd (show 0 ≤ nI j by rw [nI_0le (by omega)]; trivial) c)
        exact k4
      | none =>
        rw [ha] at A
        replace A : Ans_at F (K, U, V, Z) (1000 : Int32) (1000 : Int32) (IS (-1 : Int32) (K, U, V, Z)) := A
        refine gg1 (fun ws kG => r_aload_n S dL_law_203 rfl 2 rfl kG) ?_
        refine gg1 (fun ws kG => r_sipush (v := (1000 : Int32)) S dL_law_204 rfl kG) ?_
        refine gg1 (fun ws kG => r_sipush (v := (1000 : Int32)) S dL_law_207 rfl kG) ?_
        refine gg_at_g S A (Nat.le_of_ble_eq_true rfl) dL_law_210 (is_k ?_)
        refine gg2 (fun ws kt kf => r_if_ge 262 S dL_law_213 (by decide) kt kf) (fun c => absurd c (show ¬ 0 ≤ (-1 : Int32) by decide +kernel)) (fun c => ?_)
        cases hb : atB N X1 Y1 1000 1000 with
        | some j =>
          have j1 := (at_some hb).1
          rw [hb] at B
          replace B : Ans_at F (N, X1, Y1, W1) (1000 : Int32) (1000 : Int32) (IS (nI j) (N, X1, Y1, W1)) := B
          refine gg1 (fun ws kG => r_aload_n S dL_law_216 rfl 1 rfl kG) ?_
          refine gg1 (fun ws kG => r_sipush (v := (1000 : Int32)) S dL_law_217 rfl kG) ?_
          refine gg1 (fun ws kG => r_sipush (v := (1000 : Int32)) S dL_law_220 rfl kG) ?_
          refine gg_at_h S B (Nat.le_of_ble_eq_true rfl) dL_law_223 (is_k ?_)
          refine gg2 (fun ws kt kf => r_if_ge 262 S dL_law_226 (by decide) kt kf) (fun c => ?_) (fun c => absurd (show 0 ≤ nI j by rw [nI_0le (by omega)]; trivial) c)
          exact k4
        | none =>
          rw [hb] at B
          replace B : Ans_at F (N, X1, Y1, W1) (1000 : Int32) (1000 : Int32) (IS (-1 : Int32) (N, X1, Y1, W1)) := B
          refine gg1 (fun ws kG => r_aload_n S dL_law_216 rfl 1 rfl kG) ?_
          refine gg1 (fun ws kG => r_sipush (v := (1000 : Int32)) S dL_law_217 rfl kG) ?_
          refine gg1 (fun ws kG => r_sipush (v := (1000 : Int32)) S dL_law_220 rfl kG) ?_
          refine gg_at_h S B (Nat.le_of_ble_eq_true rfl) dL_law_223 (is_k ?_)
          refine gg2 (fun ws kt kf => r_if_ge 262 S dL_law_226 (by decide) kt kf) (fun c => absurd c (show ¬ 0 ≤ (-1 : Int32) by decide +kernel)) (fun c => ?_)
          have C := ans_add (F := F) (N := K) (X := U) (Y := V) (W := Z) (a := 1000) (b := 1000) (w := 5) hF hK (by omega) (by omega) (by omega) (at_none ha)
          rw [← e1000, show nI 5 = (5 : Int32) from rfl] at C
          have D := ans_at (F := F) (N := K + 1) (X := cutN (K + 1) (insB U (ipB U V 1000 1000 K) 1000)) (Y := cutN (K + 1) (insB V (ipB U V 1000 1000 K) 1000)) (W := cutN (K + 1) (insB Z (ipB U V 1000 1000 K) 5)) (x := 1000) (y := 1000) hF (by omega) (by omega)
          rw [← e1000, ins_at (w := 5) gk.1 hK (by omega) (by omega) (by omega) (at_none ha)] at D
          replace D : Ans_at F (insO K U V Z 1000 1000 5) (1000 : Int32) (1000 : Int32) (IS (nI (ipB U V 1000 1000 K)) (insO K U V Z 1000 1000 5)) := D
          have E := ans_take (F := F) (N := K + 1) (p := ipB U V 1000 1000 K) (X := cutN (K + 1) (insB U (ipB U V 1000 1000 K) 1000)) (Y := cutN (K + 1) (insB V (ipB U V 1000 1000 K) 1000)) (W := cutN (K + 1) (insB Z (ipB U V 1000 1000 K) 5)) hF (Nat.lt_succ_of_le ip_le)
          rw [ins_del gk] at E
          replace E : Ans_take F (insO K U V Z 1000 1000 5) (nI (ipB U V 1000 1000 K)) (fun v o => 0 ≤ v.toInt ∧ o = (K, U, V, Z)) := E
          refine gg1 (fun ws kG => r_aload_n S dL_law_229 rfl 2 rfl kG) ?_
          refine gg1 (fun ws kG => r_sipush (v := (1000 : Int32)) S dL_law_230 rfl kG) ?_
          refine gg1 (fun ws kG => r_sipush (v := (1000 : Int32)) S dL_law_233 rfl kG) ?_
          refine gg1 (fun ws kG => r_iconst (v := (5 : Int32)) S dL_law_236 rfl kG) ?_
          refine gg_add_g S C (Nat.le_of_ble_eq_true rfl) dL_law_237 (fun v o e => ?_)
          obtain ⟨hv, rfl⟩ := e
          refine gg2 (fun ws kt kf => r_if_lt 260 S dL_law_240 (by decide) kt kf) (fun c => absurd c (show ¬ v < 0 by rw [tI_lt, i_0]; omega)) (fun c => ?_)
          refine gg1 (fun ws kG => r_aload_n S dL_law_243 rfl 2 rfl kG) ?_
          refine gg1 (fun ws kG => r_aload_n S dL_law_244 rfl 2 rfl kG) ?_
          refine gg1 (fun ws kG => r_sipush (v := (1000 : Int32)) S dL_law_245 rfl kG) ?_
          refine gg1 (fun ws kG => r_sipush (v := (1000 : Int32)) S dL_law_248 rfl kG) ?_
          refine gg_at_g S D (Nat.le_of_ble_eq_true rfl) dL_law_251 (is_k ?_)
          refine gg_take_g S E (Nat.le_of_ble_eq_true rfl) dL_law_254 (fun v2 o2 e2 => ?_)
          obtain ⟨hv2, rfl⟩ := e2
          refine gg2 (fun ws kt kf => r_if_ge 262 S dL_law_257 (by decide) kt kf) (fun c => ?_) (fun c => absurd (show (0 : Int32) ≤ v2 by rw [tI_le, i_0]; exact hv2) c)
          exact k4
set_option maxRecDepth 100000 in
set_option maxHeartbeats 4000000 in
theorem w_loop2 {X : GX} {l0 : Launch} {D0 : va_G} {cI cJ cZ cY : ClassId} (S : Sx X cL_law TsL RL 15 room_1 (TYS cI cJ cZ cY) D0 l0) {b L : Nat} {xs : Nat → Int32} (hXs : Xs X b L xs) (hL : L ≤ 260) {a a' : Nat} {F N : Nat} {X1 Y1 W1 : Nat → Nat} {m3 : Int32} (hF : 5000 ≤ F) (gh : OKM N X1 Y1 W1) (k2 : GW X cI cJ cZ cY a a' 268 [(0, .ref b), (1, .ref a), (2, .ref a'), (3, .int m3), (4, .int (nI N)), (5, .int (nI N))] [] (N, X1, Y1, W1) (N, X1, Y1, W1)) : ∀ (d k : Nat), k + d = N → ∀ (U V Z : Nat → Nat), SUB N X1 Y1 W1 k U V Z → GW X cI cJ cZ cY a a' 53 [(0, .ref b), (1, .ref a), (2, .ref a'), (3, .int m3), (4, .int (nI N)), (5, .int (nI k))] [] (N, X1, Y1, W1) (k, U, V, Z) := by
  have hN : N ≤ 24 := gh.1.1
  obtain ⟨t, ht, et⟩ := btw_n (x := cellV L xs 60) (hi := 23) (d := 24) (by decide +kernel) (by omega) (by omega)
  intro d
  induction d with
  | zero =>
    intro k hk U V Z hs
    refine gg_ok (fun oh og => ?_)
    have gk : OKM k U V Z := og
    have ek : k = N := by omega
    subst ek
    obtain ⟨e1, e2, e3⟩ := sub_eq gh gk hs
    subst e1
    subst e2
    subst e3
    refine gg1 (fun ws kG => r_iload S dL_law_53 5 rfl kG) ?_
    refine gg1 (fun ws kG => r_iload S dL_law_55 4 rfl kG) ?_
    refine gg2 (fun ws kt kf => r_icmp_ge 268 S dL_law_57 (by decide) kt kf) (fun c => ?_) (fun c => absurd (show nI k ≤ nI k from Int32.le_refl _) c)
    exact k2
  | succ d ih =>
    intro k hk U V Z hs
    refine gg_ok (fun oh og => ?_)
    have gk : OKM k U V Z := og
    refine gg1 (fun ws kG => r_iload S dL_law_53 5 rfl kG) ?_
    refine gg1 (fun ws kG => r_iload S dL_law_55 4 rfl kG) ?_
    refine gg2 (fun ws kt kf => r_icmp_ge 268 S dL_law_57 (by decide) kt kf) (fun c => absurd c (show ¬ nI N ≤ nI k by rw [nI_leE (by omega) (by omega)]; omega)) (fun c => ?_)
    refine gg1 (fun ws kG => r_iload S dL_law_60 5 rfl kG) ?_
    refine gg1 (fun ws kG => r_bipush (v := (7 : Int32)) S dL_law_62 rfl kG) ?_
    refine gg1 (fun ws kG => r_imul S dL_law_64 kG) ?_
    refine gg1 (fun ws kG => r_topI (y := (nI (k * 7))) (by rw [show (7 : Int32) = nI 7 from rfl, pk_mul]) kG) ?_
    refine gg1 (fun ws kG => r_aload_n S dL_law_65 rfl 0 rfl kG) ?_
    refine gg1 (fun ws kG => r_bipush (v := (60 : Int32)) S dL_law_66 rfl kG) ?_
    refine gg1 (fun ws kG => r_cix S hXs (c_cell l0 D0 cI cJ cZ cY hL (by decide +kernel)) (gS u115 u116 u113 u117) ok_Lcell ⟨rfl, rfl⟩ ⟨Nat.le_of_ble_eq_true rfl, Nat.le_of_ble_eq_true rfl⟩ (As := [.ref b, .int (60 : Int32)]) (rest := [.int (nI (k * 7))]) rfl rfl (Nat.le_of_ble_eq_true rfl) dL_law_68 kG) ?_
    refine gg1 (fun ws kG => r_iconst (v := (0 : Int32)) S dL_law_71 rfl kG) ?_
    refine gg1 (fun ws kG => r_bipush (v := (23 : Int32)) S dL_law_72 rfl kG) ?_
    refine gg1 (fun ws kG => r_ci0 S (c_between l0 D0 cI cJ cZ cY (by decide +kernel)) (gS u119 u120 u113 u121) ok_Lbetween ⟨rfl, rfl⟩ ⟨Nat.le_of_ble_eq_true rfl, Nat.le_of_ble_eq_true rfl⟩ (As := [.int (cellV L xs 60), .int 0, .int 23]) (rest := [.int (nI (k * 7))]) rfl rfl (Nat.le_of_ble_eq_true rfl) dL_law_74 kG) ?_
    refine gg1 (fun ws kG => r_topI (y := (nI t)) (by rw [et]) kG) ?_
    refine gg1 (fun ws kG => r_iadd S dL_law_77 kG) ?_
    refine gg1 (fun ws kG => r_topI (y := (nI (k * 7 + t))) (by rw [nI_add]) kG) ?_
    refine gg1 (fun ws kG => r_iload S dL_law_78 4 rfl kG) ?_
    refine gg1 (fun ws kG => r_irem S dL_law_80 (show ¬ nI N = 0 by rw [nI_eq0 (by omega)]; omega) kG) ?_
    refine gg1 (fun ws kG => r_topI (y := (nI ((k * 7 + t) % N))) (by rw [pk_rem (by omega) (by omega) (by omega)]) kG) ?_
    refine gg1 (fun ws kG => r_istore S dL_law_81 (Nat.le_of_ble_eq_true rfl) (lv' := [(6, .int (nI ((k * 7 + t) % N))), (0, .ref b), (1, .ref a), (2, .ref a'), (3, .int m3), (4, .int (nI N)), (5, .int (nI k))]) rfl kG) ?_
    refine gg1 (fun ws kG => r_iconst (v := (0 : Int32)) S dL_law_83 rfl kG) ?_
    refine gg1 (fun ws kG => r_istore S dL_law_84 (Nat.le_of_ble_eq_true rfl) (lv' := [(7, .int (0 : Int32)), (6, .int (nI ((k * 7 + t) % N))), (0, .ref b), (1, .ref a), (2, .ref a'), (3, .int m3), (4, .int (nI N)), (5, .int (nI k))]) rfl kG) ?_
    refine gg1 (fun ws kG => r_iconst (v := (0 : Int32)) S dL_law_86 rfl kG) ?_
    refine gg1 (fun ws kG => r_istore S dL_law_87 (Nat.le_of_ble_eq_true rfl) (lv' := [(8, .int (0 : Int32)), (7, .int (0 : Int32)), (6, .int (nI ((k * 7 + t) % N))), (0, .ref b), (1, .ref a), (2, .ref a'), (3, .int m3), (4, .int (nI N)), (5, .int (nI k))]) rfl kG) ?_
    refine gg1 (fun ws kG => r_lv [3, 4, 5, 6, 7, 8, 2, 1, 0] (lv' := [(0, .ref b), (1, .ref a), (2, .ref a'), (3, .int m3), (4, .int (nI N)), (5, .int (nI k)), (6, .int (nI ((k * 7 + t) % N))), (7, .int (0 : Int32)), (8, .int (nI 0))]) rfl kG) ?_
    refine w_loop3 S hXs hL hF gh gk (show k < N by omega) (Nat.mod_lt _ (by omega)) (fun w hw hne => ?_) N 0 (by omega) (fun q2 h2 => absurd h2 (Nat.not_lt_zero _))
    have x1 := gh.1.2.1 w hw
    have x2 := gh.1.2.2.1 w hw
    refine w_mid S hXs hL hF (K := k + 1) hN (okm_cut (good_ins gk.1 (by omega) x1.1 x1.2 x2 hne)) (by omega) ?_
    refine gg1 (fun ws kG => r_iincc S dL_law_262 5 rfl (c0 := (1 : Int32)) rfl (nI_add k 1) (Nat.le_of_ble_eq_true rfl) (lv' := [(5, .int (nI (k + 1))), (0, .ref b), (1, .ref a), (2, .ref a'), (3, .int m3), (4, .int (nI N))]) rfl kG) ?_
    refine gg1 (fun ws kG => r_goto 53 S dL_law_265 (by decide) kG) ?_
    refine gg1 (fun ws kG => r_lv [1, 2, 3, 4, 5, 0] (lv' := [(0, .ref b), (1, .ref a), (2, .ref a'), (3, .int m3), (4, .int (nI N)), (5, .int (nI (k + 1)))]) rfl kG) ?_
    exact ih (k + 1) (by omega) _ _ _ (sub_ins hs hw rfl rfl rfl ip_le)
set_option maxRecDepth 100000 in
set_option maxHeartbeats 4000000 in
theorem w_same {X : GX} {l0 : Launch} {D0 : va_G} {cI cJ cZ cY : ClassId} (S : Sx X cL_law TsL RL 15 room_1 (TYS cI cJ cZ cY) D0 l0) {b L : Nat} {xs : Nat → Int32} (hXs : Xs X b L xs) (hL : L ≤ 260) {a a' : Nat} {F N : Nat} {X1 Y1 W1 : Nat → Nat} {m3 : Int32} (hF : 5000 ≤ F) (k : GW X cI cJ cZ cY a a' 311 [(0, .ref b), (1, .ref a), (2, .ref a'), (3, .int m3), (4, .int (nI N)), (5, .int (nI 0))] [] (N, X1, Y1, W1) (N, X1, Y1, W1)) : GW X cI cJ cZ cY a a' 268 [(0, .ref b), (1, .ref a), (2, .ref a'), (3, .int m3), (4, .int (nI N)), (5, .int (nI N))] [] (N, X1, Y1, W1) (N, X1, Y1, W1) := by
  refine gg1 (fun ws kG => r_aload_n S dL_law_268 rfl 2 rfl kG) ?_
  refine gg1 (fun ws kG => r_iconst (v := (0 : Int32)) S dL_law_269 rfl kG) ?_
  refine gg_look_g S (ans_look0 (F := F) (X := X1) (Y := Y1) (W := W1)) (Nat.le_of_ble_eq_true rfl) dL_law_270 (is_k ?_)
  refine gg1 (fun ws kG => r_iload S dL_law_273 4 rfl kG) ?_
  refine gg2 (fun ws kt kf => r_icmp_ne 306 S dL_law_275 (by decide) kt kf) (fun c => absurd rfl c) (fun c => ?_)
  refine gg1 (fun ws kG => r_aload_n S dL_law_278 rfl 2 rfl kG) ?_
  refine gg1 (fun ws kG => r_iconst (v := (4 : Int32)) S dL_law_279 rfl kG) ?_
  refine gg_look_g S (ans_look4 hF) (Nat.le_of_ble_eq_true rfl) dL_law_280 (is_k ?_)
  refine gg1 (fun ws kG => r_aload_n S dL_law_283 rfl 1 rfl kG) ?_
  refine gg1 (fun ws kG => r_iconst (v := (4 : Int32)) S dL_law_284 rfl kG) ?_
  refine gg_look_h S (ans_look4 hF) (Nat.le_of_ble_eq_true rfl) dL_law_285 (is_k ?_)
  refine gg2 (fun ws kt kf => r_icmp_ne 306 S dL_law_288 (by decide) kt kf) (fun c => absurd rfl c) (fun c => ?_)
  refine gg1 (fun ws kG => r_aload_n S dL_law_291 rfl 2 rfl kG) ?_
  refine gg1 (fun ws kG => r_bipush (v := (8 : Int32)) S dL_law_292 rfl kG) ?_
  refine gg_look_g S (ans_look8 hF) (Nat.le_of_ble_eq_true rfl) dL_law_294 (is_k ?_)
  refine gg1 (fun ws kG => r_aload_n S dL_law_297 rfl 1 rfl kG) ?_
  refine gg1 (fun ws kG => r_bipush (v := (8 : Int32)) S dL_law_298 rfl kG) ?_
  refine gg_look_h S (ans_look8 hF) (Nat.le_of_ble_eq_true rfl) dL_law_300 (is_k ?_)
  refine gg2 (fun ws kt kf => r_icmp_eq 308 S dL_law_303 (by decide) kt kf) (fun c => ?_) (fun c => absurd rfl c)
  refine gg1 (fun ws kG => r_iconst (v := (0 : Int32)) S dL_law_308 rfl kG) ?_
  refine gg1 (fun ws kG => r_istore S dL_law_309 (Nat.le_of_ble_eq_true rfl) (lv' := [(5, .int (0 : Int32)), (0, .ref b), (1, .ref a), (2, .ref a'), (3, .int m3), (4, .int (nI N))]) rfl kG) ?_
  refine gg1 (fun ws kG => r_lv [1, 2, 3, 4, 5, 0] (lv' := [(0, .ref b), (1, .ref a), (2, .ref a'), (3, .int m3), (4, .int (nI N)), (5, .int (nI 0))]) rfl kG) ?_
  exact k
set_option maxRecDepth 100000 in
set_option maxHeartbeats 4000000 in
theorem le_pred {N : Nat} (hN : N ≤ 24) : nI N - 1 ≤ nI (N - 1) := by
  rcases Nat.eq_zero_or_pos N with h | h
  · rw [h]
    decide +kernel
  · rw [nI_s1 h]
    exact Int32.le_refl _
set_option maxRecDepth 100000 in
set_option maxHeartbeats 4000000 in
theorem w_loop5 {X : GX} {l0 : Launch} {D0 : va_G} {cI cJ cZ cY : ClassId} (S : Sx X cL_law TsL RL 15 room_1 (TYS cI cJ cZ cY) D0 l0) {b L : Nat} {xs : Nat → Int32} (hXs : Xs X b L xs) (hL : L ≤ 260) {a a' : Nat} {F N : Nat} {X1 Y1 W1 : Nat → Nat} {m3 : Int32} (hF : 5000 ≤ F) {j : Nat} (hj : j < N - 1) (k : GW X cI cJ cZ cY a a' 311 [(0, .ref b), (1, .ref a), (2, .ref a'), (3, .int m3), (4, .int (nI N)), (5, .int (nI (j + 1)))] [] (N, X1, Y1, W1) (N, X1, Y1, W1)) : ∀ (d w : Nat), w + d = 9 → GW X cI cJ cZ cY a a' 323 [(0, .ref b), (1, .ref a), (2, .ref a'), (3, .int m3), (4, .int (nI N)), (5, .int (nI j)), (6, .int (nI w))] [] (N, X1, Y1, W1) (N, X1, Y1, W1) := by
  intro d
  induction d with
  | zero =>
    intro w hw
    have e : w = 9 := by omega
    subst e
    refine gg1 (fun ws kG => r_iload S dL_law_323 6 rfl kG) ?_
    refine gg1 (fun ws kG => r_bipush (v := (9 : Int32)) S dL_law_325 rfl kG) ?_
    refine gg2 (fun ws kt kf => r_icmp_ge 357 S dL_law_327 (by decide) kt kf) (fun c => ?_) (fun c => absurd (show (9 : Int32) ≤ nI 9 by decide +kernel) c)
    refine gg1 (fun ws kG => r_iincc S dL_law_357 5 rfl (c0 := (1 : Int32)) rfl (nI_add j 1) (Nat.le_of_ble_eq_true rfl) (lv' := [(5, .int (nI (j + 1))), (0, .ref b), (1, .ref a), (2, .ref a'), (3, .int m3), (4, .int (nI N)), (6, .int (nI 9))]) rfl kG) ?_
    refine gg1 (fun ws kG => r_goto 311 S dL_law_360 (by decide) kG) ?_
    refine gg1 (fun ws kG => r_lv [1, 2, 3, 4, 5, 0] (lv' := [(0, .ref b), (1, .ref a), (2, .ref a'), (3, .int m3), (4, .int (nI N)), (5, .int (nI (j + 1)))]) rfl kG) ?_
    exact k
  | succ d ih =>
    intro w hw
    refine gg1 (fun ws kG => r_iload S dL_law_323 6 rfl kG) ?_
    refine gg1 (fun ws kG => r_bipush (v := (9 : Int32)) S dL_law_325 rfl kG) ?_
    refine gg2 (fun ws kt kf => r_icmp_ge 357 S dL_law_327 (by decide) kt kf) (fun c => absurd c (show ¬ (9 : Int32) ≤ nI w by rw [c9, nI_leE (by omega) (by omega)]; omega)) (fun c => ?_)
    refine gg1 (fun ws kG => r_aload_n S dL_law_330 rfl 2 rfl kG) ?_
    refine gg1 (fun ws kG => r_iload S dL_law_331 5 rfl kG) ?_
    refine gg1 (fun ws kG => r_iload S dL_law_333 6 rfl kG) ?_
    refine gg_join_g S (ans_join hF hj (show w < 9 by omega)) (Nat.le_of_ble_eq_true rfl) dL_law_335 (is_k ?_)
    refine gg1 (fun ws kG => r_aload_n S dL_law_338 rfl 1 rfl kG) ?_
    refine gg1 (fun ws kG => r_iload S dL_law_339 5 rfl kG) ?_
    refine gg1 (fun ws kG => r_iload S dL_law_341 6 rfl kG) ?_
    refine gg_join_h S (ans_join hF hj (show w < 9 by omega)) (Nat.le_of_ble_eq_true rfl) dL_law_343 (is_k ?_)
    refine gg2 (fun ws kt kf => r_icmp_eq 351 S dL_law_346 (by decide) kt kf) (fun c => ?_) (fun c => absurd rfl c)
    refine gg1 (fun ws kG => r_iincc S dL_law_351 6 rfl (c0 := (1 : Int32)) rfl (nI_add w 1) (Nat.le_of_ble_eq_true rfl) (lv' := [(6, .int (nI (w + 1))), (0, .ref b), (1, .ref a), (2, .ref a'), (3, .int m3), (4, .int (nI N)), (5, .int (nI j))]) rfl kG) ?_
    refine gg1 (fun ws kG => r_goto 323 S dL_law_354 (by decide) kG) ?_
    refine gg1 (fun ws kG => r_lv [1, 2, 3, 4, 5, 6, 0] (lv' := [(0, .ref b), (1, .ref a), (2, .ref a'), (3, .int m3), (4, .int (nI N)), (5, .int (nI j)), (6, .int (nI (w + 1)))]) rfl kG) ?_
    exact ih (w + 1) (by omega)
set_option maxRecDepth 100000 in
set_option maxHeartbeats 4000000 in
theorem w_loop4 {X : GX} {l0 : Launch} {D0 : va_G} {cI cJ cZ cY : ClassId} (S : Sx X cL_law TsL RL 15 room_1 (TYS cI cJ cZ cY) D0 l0) {b L : Nat} {xs : Nat → Int32} (hXs : Xs X b L xs) (hL : L ≤ 260) {a a' : Nat} {F N : Nat} {X1 Y1 W1 : Nat → Nat} {m3 : Int32} (hF : 5000 ≤ F) (hN : N ≤ 24) (k : GW X cI cJ cZ cY a a' 366 [(0, .ref b), (1, .ref a), (2, .ref a'), (3, .int m3), (4, .int (nI N)), (5, .int (nI 0))] [] (N, X1, Y1, W1) (N, X1, Y1, W1)) : ∀ (d j : Nat), j + d = N - 1 → GW X cI cJ cZ cY a a' 311 [(0, .ref b), (1, .ref a), (2, .ref a'), (3, .int m3), (4, .int (nI N)), (5, .int (nI j))] [] (N, X1, Y1, W1) (N, X1, Y1, W1) := by
  intro d
  induction d with
  | zero =>
    intro j hj
    have e : j = N - 1 := by omega
    subst e
    refine gg1 (fun ws kG => r_iload S dL_law_311 5 rfl kG) ?_
    refine gg1 (fun ws kG => r_iload S dL_law_313 4 rfl kG) ?_
    refine gg1 (fun ws kG => r_iconst (v := (1 : Int32)) S dL_law_315 rfl kG) ?_
    refine gg1 (fun ws kG => r_isub S dL_law_316 kG) ?_
    refine gg2 (fun ws kt kf => r_icmp_ge 363 S dL_law_317 (by decide) kt kf) (fun c => ?_) (fun c => absurd (le_pred hN) c)
    refine gg1 (fun ws kG => r_iconst (v := (0 : Int32)) S dL_law_363 rfl kG) ?_
    refine gg1 (fun ws kG => r_istore S dL_law_364 (Nat.le_of_ble_eq_true rfl) (lv' := [(5, .int (0 : Int32)), (0, .ref b), (1, .ref a), (2, .ref a'), (3, .int m3), (4, .int (nI N))]) rfl kG) ?_
    refine gg1 (fun ws kG => r_lv [1, 2, 3, 4, 5, 0] (lv' := [(0, .ref b), (1, .ref a), (2, .ref a'), (3, .int m3), (4, .int (nI N)), (5, .int (nI 0))]) rfl kG) ?_
    exact k
  | succ d ih =>
    intro j hj
    refine gg1 (fun ws kG => r_iload S dL_law_311 5 rfl kG) ?_
    refine gg1 (fun ws kG => r_iload S dL_law_313 4 rfl kG) ?_
    refine gg1 (fun ws kG => r_iconst (v := (1 : Int32)) S dL_law_315 rfl kG) ?_
    refine gg1 (fun ws kG => r_isub S dL_law_316 kG) ?_
    refine gg2 (fun ws kt kf => r_icmp_ge 363 S dL_law_317 (by decide) kt kf) (fun c => absurd c (show ¬ nI N - 1 ≤ nI j by rw [nI_s1 (by omega), nI_leE (by omega) (by omega)]; omega)) (fun c => ?_)
    refine gg1 (fun ws kG => r_iconst (v := (0 : Int32)) S dL_law_320 rfl kG) ?_
    refine gg1 (fun ws kG => r_istore S dL_law_321 (Nat.le_of_ble_eq_true rfl) (lv' := [(6, .int (0 : Int32)), (0, .ref b), (1, .ref a), (2, .ref a'), (3, .int m3), (4, .int (nI N)), (5, .int (nI j))]) rfl kG) ?_
    refine gg1 (fun ws kG => r_lv [1, 2, 3, 4, 5, 6, 0] (lv' := [(0, .ref b), (1, .ref a), (2, .ref a'), (3, .int m3), (4, .int (nI N)), (5, .int (nI j)), (6, .int (nI 0))]) rfl kG) ?_
    exact w_loop5 S hXs hL hF (by omega) (ih (j + 1) (by omega)) 9 0 rfl
