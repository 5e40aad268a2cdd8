def L_X4_pass_2 (o : Nat)   (Q : St → Prop) : Nat → Int32 → Int32 → Int32 → St → Prop
  | 0 => fun _ _ _ _ => False
  | n + 1 => fun x1 x2 x3 S => if x1 ≤ x3 then (Q S) else (E_X4_dine o x2 S (fun v2 S1 => nmI (x3 + 1) (fun v3 => L_X4_pass_2 o Q n x1 x2 v3 S1)))
set_option maxRecDepth 20000 in
theorem w_L_X4_pass_2 {E : EV} {Q : St → Prop} {o : Nat}  (C : CX E cX4_pass RX4 4 enC 6 140) (ho : okO enC o 4)  (hR : RTv E cX4_pass Q) : ∀ (n : Nat) (x1 : Int32) (x2 : Int32) (x3 : Int32) (S : St), L_X4_pass_2 o Q n x1 x2 x3 S → CF E S 2 [(0, .ref (adr (vG E) o 0)), (1, .int x1), (2, .int x2), (3, .int x3)] [] := by
  intro n
  induction n with
  | zero =>
    intro x1 x2 x3 S hm
    exact hm.elim
  | succ n ih =>
    intro x1 x2 x3 S hm
    unfold L_X4_pass_2 at hm
    refine cf_iload_n C dX4_pass_2 rfl 3 rfl ?_
    refine cf_iload_n C dX4_pass_3 rfl 1 rfl ?_
    refine cf_icmp_ge C (tgt := 19) dX4_pass_4 (by decide) hm (fun hm => ?_) (fun hm => ?_)
    · exact hR _ _ _ dX4_pass_19 hm
    · refine cf_aload_n C dX4_pass_7 rfl 0 rfl ?_
      refine cf_iload_n C dX4_pass_8 rfl 2 rfl ?_
      refine cf_callVi C [.int x2] [] ho.1 (ocell_4 ho.2.1) rfl q482 q483 (c_X4_dine (vL E) (vG E) o x2 _ _ ho hm) q506 q484 q68 md_X4_dine (Nat.le_of_ble_eq_true rfl) (Nat.le_of_ble_eq_true rfl) rfl rfl (Nat.le_of_ble_eq_true rfl) dX4_pass_9 (fun v2 S1 hm => ?_)
      refine cf_pop C dX4_pass_12 rfl ?_
      refine cf_iincN C (L1 := fun v3 => [(3, .int v3), (0, .ref (adr (vG E) o 0)), (1, .int x1), (2, .int x2)]) dX4_pass_13 3 rfl rfl (by decide) (fun _ => rfl) hm (fun v3 hm => ?_)
      refine cf_goto C (tgt := 2) dX4_pass_16 (by decide) ?_
      refine cf_sub C [1, 2, 3, 0] rfl ?_
      exact ih x1 x2 v3 _ hm
def E_X4_pass (o : Nat) (x1 : Int32) (x2 : Int32) (S : St) (Q : St → Prop) : Prop := ∃ k, L_X4_pass_2 o Q k x1 x2 0 S
set_option maxRecDepth 20000 in
theorem c_X4_pass (l : Launch) (G : GX) (o : Nat) (x1 : Int32) (x2 : Int32) (S : St) (Q : St → Prop) (ho : okO enC o 4) (hm : E_X4_pass o x1 x2 S Q) : CTv l yX4_pass (Cond.code yX4_pass cX4_pass 4 none :: AW) { frames := 6, cells := 0, slots := 0, locals := 140 } G enC [.ref (adr G o 0), .int x1, .int x2] S Q := by
  refine ct_start_v (by decide) enC_nd (Nat.le_of_ble_eq_true rfl) (fun E hG hl C hR => ?_)
  subst hG
  subst hl
  show CF E S 0 [(0, .ref (adr (vG E) o 0)), (1, .int x1), (2, .int x2)] []
  unfold E_X4_pass at hm
  refine cf_iconst C dX4_pass_0 (v := 0) rfl ?_
  refine cf_istore_n C (L1 := [(3, .int 0), (0, .ref (adr (vG E) o 0)), (1, .int x1), (2, .int x2)]) dX4_pass_1 rfl (by decide) rfl ?_
  refine cf_sub C [1, 2, 3, 0] rfl ?_
  obtain ⟨k, hm⟩ := hm
  exact w_L_X4_pass_2 C ho hR k x1 x2 0 _ hm

def L_X4_left_4 (o : Nat)   (Q : Int32 → St → Prop) : Nat → Int32 → Int32 → St → Prop
  | 0 => fun _ _ _ => False
  | n + 1 => fun x1 x2 S => if (S.1 o 2) ≤ x2 then (Q x1 S) else (vp_in x2 9 ∧ (nmI (x1 + (S.2 o 7 x2.toNatClampNeg)) (fun v1 => nmI (x2 + 1) (fun v2 => L_X4_left_4 o Q n v1 v2 S))))
set_option maxRecDepth 20000 in
theorem w_L_X4_left_4 {E : EV} {Q : Int32 → St → Prop} {o : Nat}  (C : CX E cX4_left RX4 3 enC 0 0) (ho : okO enC o 4)  (hR : RTi E cX4_left Q) : ∀ (n : Nat) (x1 : Int32) (x2 : Int32) (S : St), L_X4_left_4 o Q n x1 x2 S → CF E S 4 [(0, .ref (adr (vG E) o 0)), (1, .int x1), (2, .int x2)] [] := by
  intro n
  induction n with
  | zero =>
    intro x1 x2 S hm
    exact hm.elim
  | succ n ih =>
    intro x1 x2 S hm
    unfold L_X4_left_4 at hm
    refine cf_iload_n C dX4_left_4 rfl 2 rfl ?_
    refine cf_aload_n C dX4_left_5 rfl 0 rfl ?_
    refine gf_4_2 C inX4 ho q121 dX4_left_6 ?_
    refine cf_icmp_ge C (tgt := 27) dX4_left_9 (by decide) hm (fun hm => ?_) (fun hm => ?_)
    · refine cf_iload_n C dX4_left_27 rfl 1 rfl ?_
      exact hR _ _ _ _ dX4_left_28 hm
    · refine cf_iload_n C dX4_left_12 rfl 1 rfl ?_
      refine cf_aload_n C dX4_left_13 rfl 0 rfl ?_
      refine gf_4_7 C inX4 ho q134 dX4_left_14 ?_
      refine cf_iload_n C dX4_left_17 rfl 2 rfl ?_
      refine cf_iald C (okA_of 7 ho rfl (by decide) (by decide) (by decide)) dX4_left_18 hm (fun hm => ?_)
      refine cf_iadd C dX4_left_19 ?_
      refine cf_nmI hm (fun v1 hm => ?_)
      refine cf_istore_n C (L1 := [(1, .int v1), (0, .ref (adr (vG E) o 0)), (2, .int x2)]) dX4_left_20 rfl (by decide) rfl ?_
      refine cf_iincN C (L1 := fun v2 => [(2, .int v2), (1, .int v1), (0, .ref (adr (vG E) o 0))]) dX4_left_21 2 rfl rfl (by decide) (fun _ => rfl) hm (fun v2 hm => ?_)
      refine cf_goto C (tgt := 4) dX4_left_24 (by decide) ?_
      refine cf_sub C [2, 1, 0] rfl ?_
      exact ih v1 v2 _ hm
def E_X4_left (o : Nat) (S : St) (Q : Int32 → St → Prop) : Prop := ∃ k, L_X4_left_4 o Q k 0 0 S
set_option maxRecDepth 20000 in
theorem c_X4_left (l : Launch) (G : GX) (o : Nat) (S : St) (Q : Int32 → St → Prop) (ho : okO enC o 4) (hm : E_X4_left o S Q) : CTi l yX4_left (Cond.code yX4_left cX4_left 3 (some .int) :: AW) { frames := 0, cells := 0, slots := 0, locals := 0 } G enC [.ref (adr G o 0)] S Q := by
  refine ct_start_i (by decide) enC_nd (Nat.le_of_ble_eq_true rfl) (fun E hG hl C hR => ?_)
  subst hG
  subst hl
  show CF E S 0 [(0, .ref (adr (vG E) o 0))] []
  unfold E_X4_left at hm
  refine cf_iconst C dX4_left_0 (v := 0) rfl ?_
  refine cf_istore_n C (L1 := [(1, .int 0), (0, .ref (adr (vG E) o 0))]) dX4_left_1 rfl (by decide) rfl ?_
  refine cf_iconst C dX4_left_2 (v := 0) rfl ?_
  refine cf_istore_n C (L1 := [(2, .int 0), (1, .int 0), (0, .ref (adr (vG E) o 0))]) dX4_left_3 rfl (by decide) rfl ?_
  refine cf_sub C [2, 1, 0] rfl ?_
  obtain ⟨k, hm⟩ := hm
  exact w_L_X4_left_4 C ho hR k 0 0 _ hm

def E_X6_meals (x1 : Int32) (x2 : Int32) (S : St) (Q : Int32 → St → Prop) : Prop := E_X6_within x1 1 60 S (fun v2 S1 => if v2 = 0 then (E_X6_wrong 1 S1 (fun v4 S3 => Q v4 S3)) else (E_X6_isHunger x2 S1 (fun v6 S5 => if v6 = 0 then (E_X6_wrong 1 S5 (fun v13 S12 => Q v13 S12)) else (if ((S5.1 3 3) + x1) ≤ 9999 then (E_X4_pass 3 x1 x2 S5 (fun S7 => E_X4_left 3 S7 (fun v9 S8 => Q v9 S8))) else (E_X6_wrong 3 S5 (fun v11 S10 => Q v11 S10))))))
set_option maxRecDepth 20000 in
theorem c_X6_meals (l : Launch) (G : GX) (x1 : Int32) (x2 : Int32) (S : St) (Q : Int32 → St → Prop)  (hm : E_X6_meals x1 x2 S Q) : CTi l yX6_meals (Cond.code yX6_meals cX6_meals 3 (some .int) :: AW) { frames := 7, cells := 0, slots := 0, locals := 163 } G enC [.ref (adr G 0 0), .int x1, .int x2] S Q := by
  refine ct_start_i (by decide) enC_nd (Nat.le_of_ble_eq_true rfl) (fun E hG hl C hR => ?_)
  subst hG
  subst hl
  show CF E S 0 [(0, .ref (adr (vG E) 0 0)), (1, .int x1), (2, .int x2)] []
  unfold E_X6_meals at hm
  refine cf_iload_n C dX6_meals_0 rfl 1 rfl ?_
  refine cf_iconst C dX6_meals_1 (v := 1) rfl ?_
  refine cf_bipush C dX6_meals_2 (v := 60) rfl ?_
  refine cf_callSi C [.int x1, .int 1, .int 60] [] q312 (c_X6_within (vL E) (vG E) x1 1 60 _ _  hm) q311 q313 q65 md_X6_within (Nat.le_of_ble_eq_true rfl) (Nat.le_of_ble_eq_true rfl) rfl rfl (Nat.le_of_ble_eq_true rfl) dX6_meals_4 (fun v2 S1 hm => ?_)
  refine cf_if_eq C (tgt := 17) dX6_meals_7 (by decide) hm (fun hm => ?_) (fun hm => ?_)
  · refine cf_aload_n C dX6_meals_17 rfl 0 rfl ?_
    refine cf_iconst C dX6_meals_18 (v := 1) rfl ?_
    refine cf_callVi C [.int 1] [] okC_0.1 (ocell_6 okC_0.2.1) rfl q316 q0 (c_X6_wrong (vL E) (vG E) 1 _ _  hm) q314 q317 q65 md_X6_wrong (Nat.le_of_ble_eq_true rfl) (Nat.le_of_ble_eq_true rfl) rfl rfl (Nat.le_of_ble_eq_true rfl) dX6_meals_19 (fun v4 S3 hm => ?_)
    exact hR _ _ _ _ dX6_meals_22 hm
  · refine cf_iload_n C dX6_meals_10 rfl 2 rfl ?_
    refine cf_callSi C [.int x2] [] q479 (c_X6_isHunger (vL E) (vG E) x2 _ _  hm) q478 q480 q65 md_X6_isHunger (Nat.le_of_ble_eq_true rfl) (Nat.le_of_ble_eq_true rfl) rfl rfl (Nat.le_of_ble_eq_true rfl) dX6_meals_11 (fun v6 S5 hm => ?_)
    refine cf_if_ne C (tgt := 23) dX6_meals_14 (by decide) hm (fun hm => ?_) (fun hm => ?_)
    · refine cf_aload_n C dX6_meals_23 rfl 0 rfl ?_
      refine gf_6_2 C inX6 okC_0 q278 dX6_meals_24 ?_
      refine gf_4_3 C inX4 okC_3 q125 dX6_meals_27 ?_
      refine cf_iload_n C dX6_meals_30 rfl 1 rfl ?_
      refine cf_iadd C dX6_meals_31 ?_
      refine cf_sipush C dX6_meals_32 (v := 9999) rfl ?_
      refine cf_icmp_le C (tgt := 44) dX6_meals_35 (by decide) hm (fun hm => ?_) (fun hm => ?_)
      · refine cf_aload_n C dX6_meals_44 rfl 0 rfl ?_
        refine gf_6_2 C inX6 okC_0 q278 dX6_meals_45 ?_
        refine cf_iload_n C dX6_meals_48 rfl 1 rfl ?_
        refine cf_iload_n C dX6_meals_49 rfl 2 rfl ?_
        refine cf_callVv C [.int x1, .int x2] [] okC_3.1 (ocell_4 okC_3.2.1) rfl q503 q504 (c_X4_pass (vL E) (vG E) 3 x1 x2 _ _ okC_3 hm) q502 q505 q68 md_X4_pass (Nat.le_of_ble_eq_true rfl) (Nat.le_of_ble_eq_true rfl) rfl rfl (Nat.le_of_ble_eq_true rfl) dX6_meals_50 (fun S7 hm => ?_)
        refine cf_aload_n C dX6_meals_53 rfl 0 rfl ?_
        refine gf_6_2 C inX6 okC_0 q278 dX6_meals_54 ?_
        refine cf_callVi C [] [] okC_3.1 (ocell_4 okC_3.2.1) rfl q508 q509 (c_X4_left (vL E) (vG E) 3 _ _ okC_3 hm) q507 q510 q68 md_X4_left (Nat.le_of_ble_eq_true rfl) (Nat.le_of_ble_eq_true rfl) rfl rfl (Nat.le_of_ble_eq_true rfl) dX6_meals_57 (fun v9 S8 hm => ?_)
        exact hR _ _ _ _ dX6_meals_60 hm
      · refine cf_aload_n C dX6_meals_38 rfl 0 rfl ?_
        refine cf_iconst C dX6_meals_39 (v := 3) rfl ?_
        refine cf_callVi C [.int 3] [] okC_0.1 (ocell_6 okC_0.2.1) rfl q316 q0 (c_X6_wrong (vL E) (vG E) 3 _ _  hm) q314 q317 q65 md_X6_wrong (Nat.le_of_ble_eq_true rfl) (Nat.le_of_ble_eq_true rfl) rfl rfl (Nat.le_of_ble_eq_true rfl) dX6_meals_40 (fun v11 S10 hm => ?_)
        exact hR _ _ _ _ dX6_meals_43 hm
    · refine cf_aload_n C dX6_meals_17 rfl 0 rfl ?_
      refine cf_iconst C dX6_meals_18 (v := 1) rfl ?_
      refine cf_callVi C [.int 1] [] okC_0.1 (ocell_6 okC_0.2.1) rfl q316 q0 (c_X6_wrong (vL E) (vG E) 1 _ _  hm) q314 q317 q65 md_X6_wrong (Nat.le_of_ble_eq_true rfl) (Nat.le_of_ble_eq_true rfl) rfl rfl (Nat.le_of_ble_eq_true rfl) dX6_meals_19 (fun v13 S12 hm => ?_)
      exact hR _ _ _ _ dX6_meals_22 hm

def E_X0_draw (o : Nat) (S : St) (Q : Int32 → St → Prop) : Prop := nmS (stI S o 7 (((S.1 o 7) * 1103515245) + 12345)) (fun S1 => Q (((S1.1 o 7).toUInt32 >>> ((8 : Int32).toUInt32 &&& Int32.toUInt32 31)).toInt32) S1)
set_option maxRecDepth 20000 in
theorem c_X0_draw (l : Launch) (G : GX) (o : Nat) (S : St) (Q : Int32 → St → Prop) (ho : okO enC o 0) (hm : E_X0_draw o S Q) : CTi l yX0_draw (Cond.code yX0_draw cX0_draw 1 (some .int) :: AW) { frames := 0, cells := 0, slots := 0, locals := 0 } G enC [.ref (adr G o 0)] S Q := by
  refine ct_start_i (by decide) enC_nd (Nat.le_of_ble_eq_true rfl) (fun E hG hl C hR => ?_)
  subst hG
  subst hl
  show CF E S 0 [(0, .ref (adr (vG E) o 0))] []
  unfold E_X0_draw at hm
  refine cf_aload_n C dX0_draw_0 rfl 0 rfl ?_
  refine cf_aload_n C dX0_draw_1 rfl 0 rfl ?_
  refine gf_0_7 C inX0 ho q179 dX0_draw_2 ?_
  refine cf_ldc C dX0_draw_5 q523 ?_
  refine cf_imul C dX0_draw_7 ?_
  refine cf_sipush C dX0_draw_8 (v := 12345) rfl ?_
  refine cf_iadd C dX0_draw_11 ?_
  refine pf_0_7 C inX0 ho q179 dX0_draw_12 ?_
  refine cf_nmS hm (fun S1 hm => ?_)
  refine cf_aload_n C dX0_draw_15 rfl 0 rfl ?_
  refine gf_0_7 C inX0 ho q179 dX0_draw_16 ?_
  refine cf_bipush C dX0_draw_19 (v := 8) rfl ?_
  refine cf_iushr C dX0_draw_21 ?_
  exact hR _ _ _ _ dX0_draw_22 hm

def J_X0_dineByDraws_65 (o : Nat)   (Q : Int32 → St → Prop)  (S : St) : Prop := E_X0_draw o S (fun v2 S1 => E_X4_dine (rf o 2) (v2 - v2 / 30 * 30) S1 (fun v4 S3 => Q v4 S3))
set_option maxRecDepth 20000 in
theorem w_J_X0_dineByDraws_65 {E : EV} {Q : Int32 → St → Prop} {o : Nat}  (C : CX E cX0_dineByDraws RX0 3 enC 6 140) (ho : okO enC o 0)  (hR : RTi E cX0_dineByDraws Q) : ∀  (S : St), J_X0_dineByDraws_65 o Q  S → CF E S 65 [(0, .ref (adr (vG E) o 0))] [] := by
  intro S hm
  unfold J_X0_dineByDraws_65 at hm
  refine cf_aload_n C dX0_dineByDraws_65 rfl 0 rfl ?_
  refine gf_0_2 C inX0 ho q170 dX0_dineByDraws_66 ?_
  refine cf_aload_n C dX0_dineByDraws_69 rfl 0 rfl ?_
  refine cf_callVi C [] [.ref (adr (vG E) (rf o 2) 0)] ho.1 (ocell_0 ho.2.1) rfl q521 q12 (c_X0_draw (vL E) (vG E) o _ _ ho hm) q519 q522 q66 md_X0_draw (Nat.le_of_ble_eq_true rfl) (Nat.le_of_ble_eq_true rfl) rfl rfl (Nat.le_of_ble_eq_true rfl) dX0_dineByDraws_70 (fun v2 S1 hm => ?_)
  refine cf_bipush C dX0_dineByDraws_73 (v := 30) rfl ?_
  refine cf_iremC C dX0_dineByDraws_75 (by decide) ?_
  refine cf_callVi C [.int (v2 - v2 / 30 * 30)] [] (okC_0_2 ho).1 (ocell_4 (okC_0_2 ho).2.1) rfl q482 q483 (c_X4_dine (vL E) (vG E) (rf o 2) (v2 - v2 / 30 * 30) _ _ (okC_0_2 ho) hm) q525 q484 q68 md_X4_dine (Nat.le_of_ble_eq_true rfl) (Nat.le_of_ble_eq_true rfl) rfl rfl (Nat.le_of_ble_eq_true rfl) dX0_dineByDraws_76 (fun v4 S3 hm => ?_)
  exact hR _ _ _ _ dX0_dineByDraws_79 hm
def E_X0_dineByDraws (o : Nat) (S : St) (Q : Int32 → St → Prop) : Prop := if (S.1 (rf o 2) 2) ≤ 0 then (J_X0_dineByDraws_65 o Q S) else (E_X0_draw o S (fun v6 S5 => if (v6 - v6 / 4 * 4) = 0 then (E_X0_draw o S5 (fun v8 S7 => (¬ (S7.1 (rf o 2) 2) = 0) ∧ (nmI (v8 - v8 / (S7.1 (rf o 2) 2) * (S7.1 (rf o 2) 2)) (fun v9 => vp_in v9 9 ∧ (E_X0_draw o S7 (fun v11 S10 => vp_in v9 9 ∧ (nmS (stR S10 (rf o 2) 7 (upd (S10.2 (rf o 2) 7) v9.toNatClampNeg (if ((S7.2 (rf o 2) 7 v9.toNatClampNeg) + (v11 - v11 / 20 * 20)) < 99 then ((S7.2 (rf o 2) 7 v9.toNatClampNeg) + (v11 - v11 / 20 * 20)) else 99))) (fun S12 => J_X0_dineByDraws_65 o Q S12)))))))) else (J_X0_dineByDraws_65 o Q S5)))
set_option maxRecDepth 20000 in
theorem c_X0_dineByDraws (l : Launch) (G : GX) (o : Nat) (S : St) (Q : Int32 → St → Prop) (ho : okO enC o 0) (hm : E_X0_dineByDraws o S Q) : CTi l yX0_dineByDraws (Cond.code yX0_dineByDraws cX0_dineByDraws 3 (some .int) :: AW) { frames := 6, cells := 0, slots := 0, locals := 140 } G enC [.ref (adr G o 0)] S Q := by
  refine ct_start_i (by decide) enC_nd (Nat.le_of_ble_eq_true rfl) (fun E hG hl C hR => ?_)
  subst hG
  subst hl
  show CF E S 0 [(0, .ref (adr (vG E) o 0))] []
  unfold E_X0_dineByDraws at hm
  refine cf_aload_n C dX0_dineByDraws_0 rfl 0 rfl ?_
  refine gf_0_2 C inX0 ho q170 dX0_dineByDraws_1 ?_
  refine gf_4_2 C inX4 (okC_0_2 ho) q123 dX0_dineByDraws_4 ?_
  refine cf_if_le C (tgt := 65) dX0_dineByDraws_7 (by decide) hm (fun hm => ?_) (fun hm => ?_)
  · exact w_J_X0_dineByDraws_65 C ho hR _ hm
  · refine cf_aload_n C dX0_dineByDraws_10 rfl 0 rfl ?_
    refine cf_callVi C [] [] ho.1 (ocell_0 ho.2.1) rfl q521 q12 (c_X0_draw (vL E) (vG E) o _ _ ho hm) q519 q522 q66 md_X0_draw (Nat.le_of_ble_eq_true rfl) (Nat.le_of_ble_eq_true rfl) rfl rfl (Nat.le_of_ble_eq_true rfl) dX0_dineByDraws_11 (fun v6 S5 hm => ?_)
    refine cf_istore_n C (L1 := [(1, .int v6), (0, .ref (adr (vG E) o 0))]) dX0_dineByDraws_14 rfl (by decide) rfl ?_
    refine cf_iload_n C dX0_dineByDraws_15 rfl 0 rfl ?_
    refine cf_iconst C dX0_dineByDraws_16 (v := 4) rfl ?_
    refine cf_iremC C dX0_dineByDraws_17 (by decide) ?_
    refine cf_if_ne C (tgt := 65) dX0_dineByDraws_18 (by decide) hm (fun hm => ?_) (fun hm => ?_)
    · refine cf_sub C [1] rfl ?_
      exact w_J_X0_dineByDraws_65 C ho hR _ hm
    · refine cf_aload_n C dX0_dineByDraws_21 rfl 1 rfl ?_
      refine cf_callVi C [] [] ho.1 (ocell_0 ho.2.1) rfl q521 q12 (c_X0_draw (vL E) (vG E) o _ _ ho hm) q519 q522 q66 md_X0_draw (Nat.le_of_ble_eq_true rfl) (Nat.le_of_ble_eq_true rfl) rfl rfl (Nat.le_of_ble_eq_true rfl) dX0_dineByDraws_22 (fun v8 S7 hm => ?_)
      refine cf_aload_n C dX0_dineByDraws_25 rfl 1 rfl ?_
      refine gf_0_2 C inX0 ho q170 dX0_dineByDraws_26 ?_
      refine gf_4_2 C inX4 (okC_0_2 ho) q123 dX0_dineByDraws_29 ?_
      refine cf_irem C dX0_dineByDraws_32 hm (fun hm => ?_)
      refine cf_nmI hm (fun v9 hm => ?_)
      refine cf_istore_n C (L1 := [(2, .int v9), (1, .int v6), (0, .ref (adr (vG E) o 0))]) dX0_dineByDraws_33 rfl (by decide) rfl ?_
      refine cf_aload_n C dX0_dineByDraws_34 rfl 2 rfl ?_
      refine gf_0_2 C inX0 ho q170 dX0_dineByDraws_35 ?_
      refine gf_4_7 C inX4 (okC_0_2 ho) q135 dX0_dineByDraws_38 ?_
      refine cf_iload_n C dX0_dineByDraws_41 rfl 0 rfl ?_
      refine cf_bipush C dX0_dineByDraws_42 (v := 99) rfl ?_
      refine cf_aload_n C dX0_dineByDraws_44 rfl 2 rfl ?_
      refine gf_0_2 C inX0 ho q170 dX0_dineByDraws_45 ?_
      refine gf_4_7 C inX4 (okC_0_2 ho) q135 dX0_dineByDraws_48 ?_
      refine cf_iload_n C dX0_dineByDraws_51 rfl 0 rfl ?_
      refine cf_iald C (okA_of 7 (okC_0_2 ho) rfl (by decide) (by decide) (by decide)) dX0_dineByDraws_52 hm (fun hm => ?_)
      refine cf_aload_n C dX0_dineByDraws_53 rfl 2 rfl ?_
      refine cf_callVi C [] [.int (S7.2 (rf o 2) 7 v9.toNatClampNeg), .int 99, .int v9, .ref (adr (vG E) (rf o 2) 8)] ho.1 (ocell_0 ho.2.1) rfl q521 q12 (c_X0_draw (vL E) (vG E) o _ _ ho hm) q519 q522 q66 md_X0_draw (Nat.le_of_ble_eq_true rfl) (Nat.le_of_ble_eq_true rfl) rfl rfl (Nat.le_of_ble_eq_true rfl) dX0_dineByDraws_54 (fun v11 S10 hm => ?_)
      refine cf_bipush C dX0_dineByDraws_57 (v := 20) rfl ?_
      refine cf_iremC C dX0_dineByDraws_59 (by decide) ?_
      refine cf_iadd C dX0_dineByDraws_60 ?_
      refine cf_mmin C q524 q355 q73 q356 (Nat.le_of_ble_eq_true rfl) (Nat.le_of_ble_eq_true rfl) (Nat.le_of_ble_eq_true rfl) dX0_dineByDraws_61 ?_
      refine cf_iast C (okA_of 7 (okC_0_2 ho) rfl (by decide) (by decide) (by decide)) dX0_dineByDraws_64 hm (fun hm => ?_)
      refine cf_nmS hm (fun S12 hm => ?_)
      refine cf_sub C [2] rfl ?_
      exact w_J_X0_dineByDraws_65 C ho hR _ hm

def L_X6_loose_41    (Q : Int32 → St → Prop) : Nat → Int32 → Int32 → Int32 → St → Prop
  | 0 => fun _ _ _ _ => False
  | n + 1 => fun x1 x2 x3 S => if x1 ≤ x3 then (Q x2 S) else (E_X0_dineByDraws 1 S (fun v4 S3 => nmI (x2 + v4) (fun v5 => nmI (x3 + 1) (fun v6 => L_X6_loose_41 Q n x1 v5 v6 S3))))
set_option maxRecDepth 20000 in
theorem w_L_X6_loose_41 {E : EV} {Q : Int32 → St → Prop}   (C : CX E cX6_loose RX6 4 enC 7 162)   (hR : RTi E cX6_loose Q) : ∀ (n : Nat) (x1 : Int32) (x2 : Int32) (x3 : Int32) (S : St), L_X6_loose_41 Q n x1 x2 x3 S → CF E S 41 [(0, .ref (adr (vG E) 0 0)), (1, .int x1), (2, .int x2), (3, .int x3)] [] := by
  intro n
  induction n with
  | zero =>
    intro x1 x2 x3 S hm
    exact hm.elim
  | succ n ih =>
    intro x1 x2 x3 S hm
    unfold L_X6_loose_41 at hm
    refine cf_iload_n C dX6_loose_41 rfl 3 rfl ?_
    refine cf_iload_n C dX6_loose_42 rfl 1 rfl ?_
    refine cf_icmp_ge C (tgt := 62) dX6_loose_43 (by decide) hm (fun hm => ?_) (fun hm => ?_)
    · refine cf_iload_n C dX6_loose_62 rfl 2 rfl ?_
      exact hR _ _ _ _ dX6_loose_63 hm
    · refine cf_iload_n C dX6_loose_46 rfl 2 rfl ?_
      refine cf_aload_n C dX6_loose_47 rfl 0 rfl ?_
      refine gf_6_0 C inX6 okC_0 q276 dX6_loose_48 ?_
      refine cf_callVi C [] [.int x2] okC_1.1 (ocell_0 okC_1.2.1) rfl q516 q517 (c_X0_dineByDraws (vL E) (vG E) 1 _ _ okC_1 hm) q515 q518 q66 md_X0_dineByDraws (Nat.le_of_ble_eq_true rfl) (Nat.le_of_ble_eq_true rfl) rfl rfl (Nat.le_of_ble_eq_true rfl) dX6_loose_51 (fun v4 S3 hm => ?_)
      refine cf_iadd C dX6_loose_54 ?_
      refine cf_nmI hm (fun v5 hm => ?_)
      refine cf_istore_n C (L1 := [(2, .int v5), (0, .ref (adr (vG E) 0 0)), (1, .int x1), (3, .int x3)]) dX6_loose_55 rfl (by decide) rfl ?_
      refine cf_iincN C (L1 := fun v6 => [(3, .int v6), (2, .int v5), (0, .ref (adr (vG E) 0 0)), (1, .int x1)]) dX6_loose_56 3 rfl rfl (by decide) (fun _ => rfl) hm (fun v6 hm => ?_)
      refine cf_goto C (tgt := 41) dX6_loose_59 (by decide) ?_
      refine cf_sub C [2, 3, 1, 0] rfl ?_
      exact ih x1 v5 v6 _ hm
def E_X6_loose (x1 : Int32) (S : St) (Q : Int32 → St → Prop) : Prop := E_X6_within x1 1 30 S (fun v2 S1 => if v2 = 0 then (E_X6_wrong 1 S1 (fun v10 S9 => Q v10 S9)) else (if ((S1.1 3 3) + x1) ≤ 9999 then (∃ k, L_X6_loose_41 Q k x1 0 0 S1) else (E_X6_wrong 3 S1 (fun v8 S7 => Q v8 S7))))
set_option maxRecDepth 20000 in
theorem c_X6_loose (l : Launch) (G : GX) (x1 : Int32) (S : St) (Q : Int32 → St → Prop)  (hm : E_X6_loose x1 S Q) : CTi l yX6_loose (Cond.code yX6_loose cX6_loose 4 (some .int) :: AW) { frames := 7, cells := 0, slots := 0, locals := 162 } G enC [.ref (adr G 0 0), .int x1] S Q := by
  refine ct_start_i (by decide) enC_nd (Nat.le_of_ble_eq_true rfl) (fun E hG hl C hR => ?_)
  subst hG
  subst hl
  show CF E S 0 [(0, .ref (adr (vG E) 0 0)), (1, .int x1)] []
  unfold E_X6_loose at hm
  refine cf_iload_n C dX6_loose_0 rfl 1 rfl ?_
  refine cf_iconst C dX6_loose_1 (v := 1) rfl ?_
  refine cf_bipush C dX6_loose_2 (v := 30) rfl ?_
  refine cf_callSi C [.int x1, .int 1, .int 30] [] q312 (c_X6_within (vL E) (vG E) x1 1 30 _ _  hm) q311 q313 q65 md_X6_within (Nat.le_of_ble_eq_true rfl) (Nat.le_of_ble_eq_true rfl) rfl rfl (Nat.le_of_ble_eq_true rfl) dX6_loose_4 (fun v2 S1 hm => ?_)
  refine cf_if_ne C (tgt := 16) dX6_loose_7 (by decide) hm (fun hm => ?_) (fun hm => ?_)
  · refine cf_aload_n C dX6_loose_16 rfl 0 rfl ?_
    refine gf_6_2 C inX6 okC_0 q278 dX6_loose_17 ?_
    refine gf_4_3 C inX4 okC_3 q125 dX6_loose_20 ?_
    refine cf_iload_n C dX6_loose_23 rfl 1 rfl ?_
    refine cf_iadd C dX6_loose_24 ?_
    refine cf_sipush C dX6_loose_25 (v := 9999) rfl ?_
    refine cf_icmp_le C (tgt := 37) dX6_loose_28 (by decide) hm (fun hm => ?_) (fun hm => ?_)
    · refine cf_iconst C dX6_loose_37 (v := 0) rfl ?_
      refine cf_istore_n C (L1 := [(2, .int 0), (0, .ref (adr (vG E) 0 0)), (1, .int x1)]) dX6_loose_38 rfl (by decide) rfl ?_
      refine cf_iconst C dX6_loose_39 (v := 0) rfl ?_
      refine cf_istore_n C (L1 := [(3, .int 0), (2, .int 0), (0, .ref (adr (vG E) 0 0)), (1, .int x1)]) dX6_loose_40 rfl (by decide) rfl ?_
      refine cf_sub C [2, 3, 1, 0] rfl ?_
      obtain ⟨k, hm⟩ := hm
      exact w_L_X6_loose_41 C hR k x1 0 0 _ hm
    · refine cf_aload_n C dX6_loose_31 rfl 0 rfl ?_
      refine cf_iconst C dX6_loose_32 (v := 3) rfl ?_
      refine cf_callVi C [.int 3] [] okC_0.1 (ocell_6 okC_0.2.1) rfl q316 q0 (c_X6_wrong (vL E) (vG E) 3 _ _  hm) q314 q317 q65 md_X6_wrong (Nat.le_of_ble_eq_true rfl) (Nat.le_of_ble_eq_true rfl) rfl rfl (Nat.le_of_ble_eq_true rfl) dX6_loose_33 (fun v8 S7 hm => ?_)
      exact hR _ _ _ _ dX6_loose_36 hm
  · refine cf_aload_n C dX6_loose_10 rfl 0 rfl ?_
    refine cf_iconst C dX6_loose_11 (v := 1) rfl ?_
    refine cf_callVi C [.int 1] [] okC_0.1 (ocell_6 okC_0.2.1) rfl q316 q0 (c_X6_wrong (vL E) (vG E) 1 _ _  hm) q314 q317 q65 md_X6_wrong (Nat.le_of_ble_eq_true rfl) (Nat.le_of_ble_eq_true rfl) rfl rfl (Nat.le_of_ble_eq_true rfl) dX6_loose_12 (fun v10 S9 hm => ?_)
    exact hR _ _ _ _ dX6_loose_15 hm

def E_X6_seed (x1 : Int32) (S : St) (Q : Int32 → St → Prop) : Prop := nmI (S.1 1 7) (fun v1 => nmS (stI S 1 7 x1) (fun S2 => Q v1 S2))
set_option maxRecDepth 20000 in
theorem c_X6_seed (l : Launch) (G : GX) (x1 : Int32) (S : St) (Q : Int32 → St → Prop)  (hm : E_X6_seed x1 S Q) : CTi l yX6_seed (Cond.code yX6_seed cX6_seed 3 (some .int) :: AW) { frames := 0, cells := 0, slots := 0, locals := 0 } G enC [.ref (adr G 0 0), .int x1] S Q := by
  refine ct_start_i (by decide) enC_nd (Nat.le_of_ble_eq_true rfl) (fun E hG hl C hR => ?_)
  subst hG
  subst hl
  show CF E S 0 [(0, .ref (adr (vG E) 0 0)), (1, .int x1)] []
  unfold E_X6_seed at hm
  refine cf_aload_n C dX6_seed_0 rfl 0 rfl ?_
  refine gf_6_0 C inX6 okC_0 q276 dX6_seed_1 ?_
  refine gf_0_7 C inX0 okC_1 q180 dX6_seed_4 ?_
  refine cf_nmI hm (fun v1 hm => ?_)
  refine cf_istore_n C (L1 := [(2, .int v1), (0, .ref (adr (vG E) 0 0)), (1, .int x1)]) dX6_seed_7 rfl (by decide) rfl ?_
  refine cf_aload_n C dX6_seed_8 rfl 1 rfl ?_
  refine gf_6_0 C inX6 okC_0 q276 dX6_seed_9 ?_
  refine cf_iload_n C dX6_seed_12 rfl 2 rfl ?_
  refine pf_0_7 C inX0 okC_1 q180 dX6_seed_13 ?_
  refine cf_nmS hm (fun S2 hm => ?_)
  refine cf_iload_n C dX6_seed_16 rfl 0 rfl ?_
  exact hR _ _ _ _ dX6_seed_17 hm

def L_X4_takeFrom_26 (o : Nat) (p1 : Nat)   (Q : St → Prop) : Nat → Int32 → St → Prop
  | 0 => fun _ _ => False
  | n + 1 => fun x2 S => if (S.1 o 2) ≤ x2 then (Q S) else (vp_in x2 9 ∧ (vp_in x2 9 ∧ (nmS (stR S o 5 (upd (S.2 o 5) x2.toNatClampNeg (S.2 p1 5 x2.toNatClampNeg))) (fun S4 => vp_in x2 9 ∧ (vp_in x2 9 ∧ (nmS (stR S4 o 6 (upd (S4.2 o 6) x2.toNatClampNeg (S4.2 p1 6 x2.toNatClampNeg))) (fun S5 => vp_in x2 9 ∧ (vp_in x2 9 ∧ (nmS (stR S5 o 7 (upd (S5.2 o 7) x2.toNatClampNeg (S5.2 p1 7 x2.toNatClampNeg))) (fun S6 => vp_in x2 9 ∧ (vp_in x2 9 ∧ (nmS (stR S6 o 8 (upd (S6.2 o 8) x2.toNatClampNeg (S6.2 p1 8 x2.toNatClampNeg))) (fun S7 => vp_in x2 9 ∧ (vp_in x2 9 ∧ (nmS (stR S7 o 9 (upd (S7.2 o 9) x2.toNatClampNeg (S7.2 p1 9 x2.toNatClampNeg))) (fun S8 => nmI (x2 + 1) (fun v9 => L_X4_takeFrom_26 o p1 Q n v9 S8)))))))))))))))))
set_option maxRecDepth 20000 in
theorem w_L_X4_takeFrom_26 {E : EV} {Q : St → Prop} {o : Nat} {p1 : Nat}  (C : CX E cX4_takeFrom RX4 3 enC 0 0) (ho : okO enC o 4) (h1 : okO enC p1 4)  (hR : RTv E cX4_takeFrom Q) : ∀ (n : Nat) (x2 : Int32) (S : St), L_X4_takeFrom_26 o p1 Q n x2 S → CF E S 26 [(0, .ref (adr (vG E) o 0)), (1, .ref (adr (vG E) p1 0)), (2, .int x2)] [] := by
  intro n
  induction n with
  | zero =>
    intro x2 S hm
    exact hm.elim
  | succ n ih =>
    intro x2 S hm
    unfold L_X4_takeFrom_26 at hm
    refine cf_iload_n C dX4_takeFrom_26 rfl 2 rfl ?_
    refine cf_aload_n C dX4_takeFrom_27 rfl 0 rfl ?_
    refine gf_4_2 C inX4 ho q121 dX4_takeFrom_28 ?_
    refine cf_icmp_ge C (tgt := 100) dX4_takeFrom_31 (by decide) hm (fun hm => ?_) (fun hm => ?_)
    · exact hR _ _ _ dX4_takeFrom_100 hm
    · refine cf_aload_n C dX4_takeFrom_34 rfl 0 rfl ?_
      refine gf_4_5 C inX4 ho q128 dX4_takeFrom_35 ?_
      refine cf_iload_n C dX4_takeFrom_38 rfl 2 rfl ?_
      refine cf_aload_n C dX4_takeFrom_39 rfl 1 rfl ?_
      refine gf_4_5 C inX4 h1 q128 dX4_takeFrom_40 ?_
      refine cf_iload_n C dX4_takeFrom_43 rfl 2 rfl ?_
      refine cf_iald C (okA_of 5 h1 rfl (by decide) (by decide) (by decide)) dX4_takeFrom_44 hm (fun hm => ?_)
      refine cf_iast C (okA_of 5 ho rfl (by decide) (by decide) (by decide)) dX4_takeFrom_45 hm (fun hm => ?_)
      refine cf_nmS hm (fun S4 hm => ?_)
      refine cf_aload_n C dX4_takeFrom_46 rfl 0 rfl ?_
      refine gf_4_6 C inX4 ho q131 dX4_takeFrom_47 ?_
      refine cf_iload_n C dX4_takeFrom_50 rfl 2 rfl ?_
      refine cf_aload_n C dX4_takeFrom_51 rfl 1 rfl ?_
      refine gf_4_6 C inX4 h1 q131 dX4_takeFrom_52 ?_
      refine cf_iload_n C dX4_takeFrom_55 rfl 2 rfl ?_
      refine cf_iald C (okA_of 6 h1 rfl (by decide) (by decide) (by decide)) dX4_takeFrom_56 hm (fun hm => ?_)
      refine cf_iast C (okA_of 6 ho rfl (by decide) (by decide) (by decide)) dX4_takeFrom_57 hm (fun hm => ?_)
      refine cf_nmS hm (fun S5 hm => ?_)
      refine cf_aload_n C dX4_takeFrom_58 rfl 0 rfl ?_
      refine gf_4_7 C inX4 ho q134 dX4_takeFrom_59 ?_
      refine cf_iload_n C dX4_takeFrom_62 rfl 2 rfl ?_
      refine cf_aload_n C dX4_takeFrom_63 rfl 1 rfl ?_
      refine gf_4_7 C inX4 h1 q134 dX4_takeFrom_64 ?_
      refine cf_iload_n C dX4_takeFrom_67 rfl 2 rfl ?_
      refine cf_iald C (okA_of 7 h1 rfl (by decide) (by decide) (by decide)) dX4_takeFrom_68 hm (fun hm => ?_)
      refine cf_iast C (okA_of 7 ho rfl (by decide) (by decide) (by decide)) dX4_takeFrom_69 hm (fun hm => ?_)
      refine cf_nmS hm (fun S6 hm => ?_)
      refine cf_aload_n C dX4_takeFrom_70 rfl 0 rfl ?_
      refine gf_4_8 C inX4 ho q137 dX4_takeFrom_71 ?_
      refine cf_iload_n C dX4_takeFrom_74 rfl 2 rfl ?_
      refine cf_aload_n C dX4_takeFrom_75 rfl 1 rfl ?_
      refine gf_4_8 C inX4 h1 q137 dX4_takeFrom_76 ?_
      refine cf_iload_n C dX4_takeFrom_79 rfl 2 rfl ?_
      refine cf_iald C (okA_of 8 h1 rfl (by decide) (by decide) (by decide)) dX4_takeFrom_80 hm (fun hm => ?_)
      refine cf_iast C (okA_of 8 ho rfl (by decide) (by decide) (by decide)) dX4_takeFrom_81 hm (fun hm => ?_)
      refine cf_nmS hm (fun S7 hm => ?_)
      refine cf_aload_n C dX4_takeFrom_82 rfl 0 rfl ?_
      refine gf_4_9 C inX4 ho q139 dX4_takeFrom_83 ?_
      refine cf_iload_n C dX4_takeFrom_86 rfl 2 rfl ?_
      refine cf_aload_n C dX4_takeFrom_87 rfl 1 rfl ?_
      refine gf_4_9 C inX4 h1 q139 dX4_takeFrom_88 ?_
      refine cf_iload_n C dX4_takeFrom_91 rfl 2 rfl ?_
      refine cf_iald C (okA_of 9 h1 rfl (by decide) (by decide) (by decide)) dX4_takeFrom_92 hm (fun hm => ?_)
      refine cf_iast C (okA_of 9 ho rfl (by decide) (by decide) (by decide)) dX4_takeFrom_93 hm (fun hm => ?_)
      refine cf_nmS hm (fun S8 hm => ?_)
      refine cf_iincN C (L1 := fun v9 => [(2, .int v9), (0, .ref (adr (vG E) o 0)), (1, .ref (adr (vG E) p1 0))]) dX4_takeFrom_94 2 rfl rfl (by decide) (fun _ => rfl) hm (fun v9 hm => ?_)
      refine cf_goto C (tgt := 26) dX4_takeFrom_97 (by decide) ?_
      refine cf_sub C [1, 2, 0] rfl ?_
      exact ih v9 _ hm
def E_X4_takeFrom (o : Nat) (p1 : Nat) (S : St) (Q : St → Prop) : Prop := nmS (stI S o 2 (S.1 p1 2)) (fun S1 => nmS (stI S1 o 3 (S1.1 p1 3)) (fun S2 => nmS (stI S2 o 4 (S2.1 p1 4)) (fun S3 => ∃ k, L_X4_takeFrom_26 o p1 Q k 0 S3)))
set_option maxRecDepth 20000 in
theorem c_X4_takeFrom (l : Launch) (G : GX) (o : Nat) (p1 : Nat) (S : St) (Q : St → Prop) (ho : okO enC o 4) (h1 : okO enC p1 4) (hm : E_X4_takeFrom o p1 S Q) : CTv l yX4_takeFrom (Cond.code yX4_takeFrom cX4_takeFrom 3 none :: AW) { frames := 0, cells := 0, slots := 0, locals := 0 } G enC [.ref (adr G o 0), .ref (adr G p1 0)] S Q := by
  refine ct_start_v (by decide) enC_nd (Nat.le_of_ble_eq_true rfl) (fun E hG hl C hR => ?_)
  subst hG
  subst hl
  show CF E S 0 [(0, .ref (adr (vG E) o 0)), (1, .ref (adr (vG E) p1 0))] []
  unfold E_X4_takeFrom at hm
  refine cf_aload_n C dX4_takeFrom_0 rfl 0 rfl ?_
  refine cf_aload_n C dX4_takeFrom_1 rfl 1 rfl ?_
  refine gf_4_2 C inX4 h1 q121 dX4_takeFrom_2 ?_
  refine pf_4_2 C inX4 ho q121 dX4_takeFrom_5 ?_
  refine cf_nmS hm (fun S1 hm => ?_)
  refine cf_aload_n C dX4_takeFrom_8 rfl 0 rfl ?_
  refine cf_aload_n C dX4_takeFrom_9 rfl 1 rfl ?_
  refine gf_4_3 C inX4 h1 q124 dX4_takeFrom_10 ?_
  refine pf_4_3 C inX4 ho q124 dX4_takeFrom_13 ?_
  refine cf_nmS hm (fun S2 hm => ?_)
  refine cf_aload_n C dX4_takeFrom_16 rfl 0 rfl ?_
  refine cf_aload_n C dX4_takeFrom_17 rfl 1 rfl ?_
  refine gf_4_4 C inX4 h1 q126 dX4_takeFrom_18 ?_
  refine pf_4_4 C inX4 ho q126 dX4_takeFrom_21 ?_
  refine cf_nmS hm (fun S3 hm => ?_)
  refine cf_iconst C dX4_takeFrom_24 (v := 0) rfl ?_
  refine cf_istore_n C (L1 := [(2, .int 0), (0, .ref (adr (vG E) o 0)), (1, .ref (adr (vG E) p1 0))]) dX4_takeFrom_25 rfl (by decide) rfl ?_
  refine cf_sub C [1, 2, 0] rfl ?_
  obtain ⟨k, hm⟩ := hm
  exact w_L_X4_takeFrom_26 C ho h1 hR k 0 _ hm

def E_X6_then (x1 : Int32) (x2 : Int32) (x3 : Int32) (S : St) (Q : Int32 → St → Prop) : Prop := E_X6_within x1 0 60 S (fun v2 S1 => if v2 = 0 then (E_X6_wrong 1 S1 (fun v4 S3 => Q v4 S3)) else (E_X6_isHunger x2 S1 (fun v6 S5 => if v6 = 0 then (E_X6_wrong 1 S5 (fun v8 S7 => Q v8 S7)) else (E_X6_within x3 0 1 S5 (fun v10 S9 => if v10 = 0 then (E_X6_wrong 1 S9 (fun v18 S17 => Q v18 S17)) else (E_X4_takeFrom 5 3 S9 (fun S11 => E_X4_pass 5 x1 x2 S11 (fun S12 => if x3 = 0 then (E_X4_left 5 S12 (fun v16 S15 => Q v16 S15)) else (E_X4_sayer 5 S12 (fun v14 S13 => Q v14 S13))))))))))
set_option maxRecDepth 20000 in
theorem c_X6_then (l : Launch) (G : GX) (x1 : Int32) (x2 : Int32) (x3 : Int32) (S : St) (Q : Int32 → St → Prop)  (hm : E_X6_then x1 x2 x3 S Q) : CTi l yX6_then (Cond.code yX6_then cX6_then 4 (some .int) :: AW) { frames := 7, cells := 0, slots := 0, locals := 163 } G enC [.ref (adr G 0 0), .int x1, .int x2, .int x3] S Q := by
  refine ct_start_i (by decide) enC_nd (Nat.le_of_ble_eq_true rfl) (fun E hG hl C hR => ?_)
  subst hG
  subst hl
  show CF E S 0 [(0, .ref (adr (vG E) 0 0)), (1, .int x1), (2, .int x2), (3, .int x3)] []
  unfold E_X6_then at hm
  refine cf_iload_n C dX6_then_0 rfl 1 rfl ?_
  refine cf_iconst C dX6_then_1 (v := 0) rfl ?_
  refine cf_bipush C dX6_then_2 (v := 60) rfl ?_
  refine cf_callSi C [.int x1, .int 0, .int 60] [] q312 (c_X6_within (vL E) (vG E) x1 0 60 _ _  hm) q311 q313 q65 md_X6_within (Nat.le_of_ble_eq_true rfl) (Nat.le_of_ble_eq_true rfl) rfl rfl (Nat.le_of_ble_eq_true rfl) dX6_then_4 (fun v2 S1 hm => ?_)
  refine cf_if_eq C (tgt := 26) dX6_then_7 (by decide) hm (fun hm => ?_) (fun hm => ?_)
  · refine cf_aload_n C dX6_then_26 rfl 0 rfl ?_
    refine cf_iconst C dX6_then_27 (v := 1) rfl ?_
    refine cf_callVi C [.int 1] [] okC_0.1 (ocell_6 okC_0.2.1) rfl q316 q0 (c_X6_wrong (vL E) (vG E) 1 _ _  hm) q314 q317 q65 md_X6_wrong (Nat.le_of_ble_eq_true rfl) (Nat.le_of_ble_eq_true rfl) rfl rfl (Nat.le_of_ble_eq_true rfl) dX6_then_28 (fun v4 S3 hm => ?_)
    exact hR _ _ _ _ dX6_then_31 hm
  · refine cf_iload_n C dX6_then_10 rfl 2 rfl ?_
    refine cf_callSi C [.int x2] [] q479 (c_X6_isHunger (vL E) (vG E) x2 _ _  hm) q478 q480 q65 md_X6_isHunger (Nat.le_of_ble_eq_true rfl) (Nat.le_of_ble_eq_true rfl) rfl rfl (Nat.le_of_ble_eq_true rfl) dX6_then_11 (fun v6 S5 hm => ?_)
    refine cf_if_eq C (tgt := 26) dX6_then_14 (by decide) hm (fun hm => ?_) (fun hm => ?_)
    · refine cf_aload_n C dX6_then_26 rfl 0 rfl ?_
      refine cf_iconst C dX6_then_27 (v := 1) rfl ?_
      refine cf_callVi C [.int 1] [] okC_0.1 (ocell_6 okC_0.2.1) rfl q316 q0 (c_X6_wrong (vL E) (vG E) 1 _ _  hm) q314 q317 q65 md_X6_wrong (Nat.le_of_ble_eq_true rfl) (Nat.le_of_ble_eq_true rfl) rfl rfl (Nat.le_of_ble_eq_true rfl) dX6_then_28 (fun v8 S7 hm => ?_)
      exact hR _ _ _ _ dX6_then_31 hm
    · refine cf_iload_n C dX6_then_17 rfl 3 rfl ?_
      refine cf_iconst C dX6_then_18 (v := 0) rfl ?_
      refine cf_iconst C dX6_then_19 (v := 1) rfl ?_
      refine cf_callSi C [.int x3, .int 0, .int 1] [] q312 (c_X6_within (vL E) (vG E) x3 0 1 _ _  hm) q311 q313 q65 md_X6_within (Nat.le_of_ble_eq_true rfl) (Nat.le_of_ble_eq_true rfl) rfl rfl (Nat.le_of_ble_eq_true rfl) dX6_then_20 (fun v10 S9 hm => ?_)
      refine cf_if_ne C (tgt := 32) dX6_then_23 (by decide) hm (fun hm => ?_) (fun hm => ?_)
      · refine cf_aload_n C dX6_then_32 rfl 0 rfl ?_
        refine gf_6_3 C inX6 okC_0 q279 dX6_then_33 ?_
        refine cf_aload_n C dX6_then_36 rfl 0 rfl ?_
        refine gf_6_2 C inX6 okC_0 q278 dX6_then_37 ?_
        refine cf_callVv C [.ref (adr (vG E) 3 0)] [] okC_5.1 (ocell_4 okC_5.2.1) rfl q535 q536 (c_X4_takeFrom (vL E) (vG E) 5 3 _ _ okC_5 okC_3 hm) q534 q537 q68 md_X4_takeFrom (Nat.le_of_ble_eq_true rfl) (Nat.le_of_ble_eq_true rfl) rfl rfl (Nat.le_of_ble_eq_true rfl) dX6_then_40 (fun S11 hm => ?_)
        refine cf_aload_n C dX6_then_43 rfl 0 rfl ?_
        refine gf_6_3 C inX6 okC_0 q279 dX6_then_44 ?_
        refine cf_iload_n C dX6_then_47 rfl 1 rfl ?_
        refine cf_iload_n C dX6_then_48 rfl 2 rfl ?_
        refine cf_callVv C [.int x1, .int x2] [] okC_5.1 (ocell_4 okC_5.2.1) rfl q503 q504 (c_X4_pass (vL E) (vG E) 5 x1 x2 _ _ okC_5 hm) q502 q505 q68 md_X4_pass (Nat.le_of_ble_eq_true rfl) (Nat.le_of_ble_eq_true rfl) rfl rfl (Nat.le_of_ble_eq_true rfl) dX6_then_49 (fun S12 hm => ?_)
        refine cf_iload_n C dX6_then_52 rfl 3 rfl ?_
        refine cf_if_ne C (tgt := 66) dX6_then_53 (by decide) hm (fun hm => ?_) (fun hm => ?_)
        · refine cf_aload_n C dX6_then_66 rfl 0 rfl ?_
          refine gf_6_3 C inX6 okC_0 q279 dX6_then_67 ?_
          refine cf_callVi C [] [] okC_5.1 (ocell_4 okC_5.2.1) rfl q366 q367 (c_X4_sayer (vL E) (vG E) 5 _ _ okC_5 hm) q365 q368 q68 md_X4_sayer (Nat.le_of_ble_eq_true rfl) (Nat.le_of_ble_eq_true rfl) rfl rfl (Nat.le_of_ble_eq_true rfl) dX6_then_70 (fun v14 S13 hm => ?_)
          exact hR _ _ _ _ dX6_then_73 hm
        · refine cf_aload_n C dX6_then_56 rfl 0 rfl ?_
          refine gf_6_3 C inX6 okC_0 q279 dX6_then_57 ?_
          refine cf_callVi C [] [] okC_5.1 (ocell_4 okC_5.2.1) rfl q508 q509 (c_X4_left (vL E) (vG E) 5 _ _ okC_5 hm) q507 q510 q68 md_X4_left (Nat.le_of_ble_eq_true rfl) (Nat.le_of_ble_eq_true rfl) rfl rfl (Nat.le_of_ble_eq_true rfl) dX6_then_60 (fun v16 S15 hm => ?_)
          refine cf_goto C (tgt := 73) dX6_then_63 (by decide) ?_
          exact hR _ _ _ _ dX6_then_73 hm
      · refine cf_aload_n C dX6_then_26 rfl 0 rfl ?_
        refine cf_iconst C dX6_then_27 (v := 1) rfl ?_
        refine cf_callVi C [.int 1] [] okC_0.1 (ocell_6 okC_0.2.1) rfl q316 q0 (c_X6_wrong (vL E) (vG E) 1 _ _  hm) q314 q317 q65 md_X6_wrong (Nat.le_of_ble_eq_true rfl) (Nat.le_of_ble_eq_true rfl) rfl rfl (Nat.le_of_ble_eq_true rfl) dX6_then_28 (fun v18 S17 hm => ?_)
        exact hR _ _ _ _ dX6_then_31 hm

def L_X6_gone_37    (Q : Int32 → St → Prop) : Nat → Int32 → Int32 → Int32 → St → Prop
  | 0 => fun _ _ _ _ => False
  | n + 1 => fun x1 x2 x3 S => if 60 < x3 then (E_X6_wrong 2 S (fun v9 S8 => Q v9 S8)) else (vp_in x1 9 ∧ (if (S.2 5 7 x1.toNatClampNeg) = 0 then (Q x3 S) else (E_X4_dine 5 x2 S (fun v11 S10 => nmI (x3 + 1) (fun v12 => L_X6_gone_37 Q n x1 x2 v12 S10)))))
set_option maxRecDepth 20000 in
theorem w_L_X6_gone_37 {E : EV} {Q : Int32 → St → Prop}   (C : CX E cX6_gone RX6 4 enC 6 140)   (hR : RTi E cX6_gone Q) : ∀ (n : Nat) (x1 : Int32) (x2 : Int32) (x3 : Int32) (S : St), L_X6_gone_37 Q n x1 x2 x3 S → CF E S 37 [(0, .ref (adr (vG E) 0 0)), (1, .int x1), (2, .int x2), (3, .int x3)] [] := by
  intro n
  induction n with
  | zero =>
    intro x1 x2 x3 S hm
    exact hm.elim
  | succ n ih =>
    intro x1 x2 x3 S hm
    unfold L_X6_gone_37 at hm
    refine cf_iload_n C dX6_gone_37 rfl 3 rfl ?_
    refine cf_bipush C dX6_gone_38 (v := 60) rfl ?_
    refine cf_icmp_gt C (tgt := 72) dX6_gone_40 (by decide) hm (fun hm => ?_) (fun hm => ?_)
    · refine cf_aload_n C dX6_gone_72 rfl 0 rfl ?_
      refine cf_iconst C dX6_gone_73 (v := 2) rfl ?_
      refine cf_callVi C [.int 2] [] okC_0.1 (ocell_6 okC_0.2.1) rfl q316 q0 (c_X6_wrong (vL E) (vG E) 2 _ _  hm) q314 q317 q65 md_X6_wrong (Nat.le_of_ble_eq_true rfl) (Nat.le_of_ble_eq_true rfl) rfl rfl (Nat.le_of_ble_eq_true rfl) dX6_gone_74 (fun v9 S8 hm => ?_)
      exact hR _ _ _ _ dX6_gone_77 hm
    · refine cf_aload_n C dX6_gone_43 rfl 0 rfl ?_
      refine gf_6_3 C inX6 okC_0 q279 dX6_gone_44 ?_
      refine gf_4_7 C inX4 okC_5 q136 dX6_gone_47 ?_
      refine cf_iload_n C dX6_gone_50 rfl 1 rfl ?_
      refine cf_iald C (okA_of 7 okC_5 rfl (by decide) (by decide) (by decide)) dX6_gone_51 hm (fun hm => ?_)
      refine cf_if_ne C (tgt := 57) dX6_gone_52 (by decide) hm (fun hm => ?_) (fun hm => ?_)
      · refine cf_aload_n C dX6_gone_57 rfl 0 rfl ?_
        refine gf_6_3 C inX6 okC_0 q279 dX6_gone_58 ?_
        refine cf_iload_n C dX6_gone_61 rfl 2 rfl ?_
        refine cf_callVi C [.int x2] [] okC_5.1 (ocell_4 okC_5.2.1) rfl q482 q483 (c_X4_dine (vL E) (vG E) 5 x2 _ _ okC_5 hm) q481 q484 q68 md_X4_dine (Nat.le_of_ble_eq_true rfl) (Nat.le_of_ble_eq_true rfl) rfl rfl (Nat.le_of_ble_eq_true rfl) dX6_gone_62 (fun v11 S10 hm => ?_)
        refine cf_pop C dX6_gone_65 rfl ?_
        refine cf_iincN C (L1 := fun v12 => [(3, .int v12), (0, .ref (adr (vG E) 0 0)), (1, .int x1), (2, .int x2)]) dX6_gone_66 3 rfl rfl (by decide) (fun _ => rfl) hm (fun v12 hm => ?_)
        refine cf_goto C (tgt := 37) dX6_gone_69 (by decide) ?_
        refine cf_sub C [1, 2, 3, 0] rfl ?_
        exact ih x1 x2 v12 _ hm
      · refine cf_iload_n C dX6_gone_55 rfl 3 rfl ?_
        exact hR _ _ _ _ dX6_gone_56 hm
def E_X6_gone (x1 : Int32) (x2 : Int32) (S : St) (Q : Int32 → St → Prop) : Prop := E_X4_has 3 x1 S (fun v2 S1 => if v2 = 0 then (E_X6_wrong 1 S1 (fun v4 S3 => Q v4 S3)) else (E_X6_isHunger x2 S1 (fun v6 S5 => if v6 = 0 then (E_X6_wrong 1 S5 (fun v14 S13 => Q v14 S13)) else (E_X4_takeFrom 5 3 S5 (fun S7 => ∃ k, L_X6_gone_37 Q k x1 x2 0 S7)))))
set_option maxRecDepth 20000 in
theorem c_X6_gone (l : Launch) (G : GX) (x1 : Int32) (x2 : Int32) (S : St) (Q : Int32 → St → Prop)  (hm : E_X6_gone x1 x2 S Q) : CTi l yX6_gone (Cond.code yX6_gone cX6_gone 4 (some .int) :: AW) { frames := 6, cells := 0, slots := 0, locals := 140 } G enC [.ref (adr G 0 0), .int x1, .int x2] S Q := by
  refine ct_start_i (by decide) enC_nd (Nat.le_of_ble_eq_true rfl) (fun E hG hl C hR => ?_)
  subst hG
  subst hl
  show CF E S 0 [(0, .ref (adr (vG E) 0 0)), (1, .int x1), (2, .int x2)] []
  unfold E_X6_gone at hm
  refine cf_aload_n C dX6_gone_0 rfl 0 rfl ?_
  refine gf_6_2 C inX6 okC_0 q278 dX6_gone_1 ?_
  refine cf_iload_n C dX6_gone_4 rfl 1 rfl ?_
  refine cf_callVi C [.int x1] [] okC_3.1 (ocell_4 okC_3.2.1) rfl q328 q329 (c_X4_has (vL E) (vG E) 3 x1 _ _ okC_3 hm) q327 q330 q68 md_X4_has (Nat.le_of_ble_eq_true rfl) (Nat.le_of_ble_eq_true rfl) rfl rfl (Nat.le_of_ble_eq_true rfl) dX6_gone_5 (fun v2 S1 hm => ?_)
  refine cf_if_eq C (tgt := 18) dX6_gone_8 (by decide) hm (fun hm => ?_) (fun hm => ?_)
  · refine cf_aload_n C dX6_gone_18 rfl 0 rfl ?_
    refine cf_iconst C dX6_gone_19 (v := 1) rfl ?_
    refine cf_callVi C [.int 1] [] okC_0.1 (ocell_6 okC_0.2.1) rfl q316 q0 (c_X6_wrong (vL E) (vG E) 1 _ _  hm) q314 q317 q65 md_X6_wrong (Nat.le_of_ble_eq_true rfl) (Nat.le_of_ble_eq_true rfl) rfl rfl (Nat.le_of_ble_eq_true rfl) dX6_gone_20 (fun v4 S3 hm => ?_)
    exact hR _ _ _ _ dX6_gone_23 hm
  · refine cf_iload_n C dX6_gone_11 rfl 2 rfl ?_
    refine cf_callSi C [.int x2] [] q479 (c_X6_isHunger (vL E) (vG E) x2 _ _  hm) q478 q480 q65 md_X6_isHunger (Nat.le_of_ble_eq_true rfl) (Nat.le_of_ble_eq_true rfl) rfl rfl (Nat.le_of_ble_eq_true rfl) dX6_gone_12 (fun v6 S5 hm => ?_)
    refine cf_if_ne C (tgt := 24) dX6_gone_15 (by decide) hm (fun hm => ?_) (fun hm => ?_)
    · refine cf_aload_n C dX6_gone_24 rfl 0 rfl ?_
      refine gf_6_3 C inX6 okC_0 q279 dX6_gone_25 ?_
      refine cf_aload_n C dX6_gone_28 rfl 0 rfl ?_
      refine gf_6_2 C inX6 okC_0 q278 dX6_gone_29 ?_
      refine cf_callVv C [.ref (adr (vG E) 3 0)] [] okC_5.1 (ocell_4 okC_5.2.1) rfl q535 q536 (c_X4_takeFrom (vL E) (vG E) 5 3 _ _ okC_5 okC_3 hm) q534 q537 q68 md_X4_takeFrom (Nat.le_of_ble_eq_true rfl) (Nat.le_of_ble_eq_true rfl) rfl rfl (Nat.le_of_ble_eq_true rfl) dX6_gone_32 (fun S7 hm => ?_)
      refine cf_iconst C dX6_gone_35 (v := 0) rfl ?_
      refine cf_istore_n C (L1 := [(3, .int 0), (0, .ref (adr (vG E) 0 0)), (1, .int x1), (2, .int x2)]) dX6_gone_36 rfl (by decide) rfl ?_
      refine cf_sub C [1, 2, 3, 0] rfl ?_
      obtain ⟨k, hm⟩ := hm
      exact w_L_X6_gone_37 C hR k x1 x2 0 _ hm
    · refine cf_aload_n C dX6_gone_18 rfl 0 rfl ?_
      refine cf_iconst C dX6_gone_19 (v := 1) rfl ?_
      refine cf_callVi C [.int 1] [] okC_0.1 (ocell_6 okC_0.2.1) rfl q316 q0 (c_X6_wrong (vL E) (vG E) 1 _ _  hm) q314 q317 q65 md_X6_wrong (Nat.le_of_ble_eq_true rfl) (Nat.le_of_ble_eq_true rfl) rfl rfl (Nat.le_of_ble_eq_true rfl) dX6_gone_20 (fun v14 S13 hm => ?_)
      exact hR _ _ _ _ dX6_gone_23 hm

def L_X6_needs_18    (Q : Int32 → St → Prop) : Nat → Int32 → Int32 → St → Prop
  | 0 => fun _ _ _ => False
  | n + 1 => fun x1 x2 S => if 99 < x2 then (E_X6_wrong 2 S (fun v4 S3 => Q v4 S3)) else (E_X4_takeFrom 5 3 S (fun S5 => E_X4_pass 5 x1 x2 S5 (fun S6 => E_X4_left 5 S6 (fun v8 S7 => if v8 = 0 then (Q x2 S7) else (nmI (x2 + 1) (fun v9 => L_X6_needs_18 Q n x1 v9 S7))))))
set_option maxRecDepth 20000 in
theorem w_L_X6_needs_18 {E : EV} {Q : Int32 → St → Prop}   (C : CX E cX6_needs RX6 3 enC 7 163)   (hR : RTi E cX6_needs Q) : ∀ (n : Nat) (x1 : Int32) (x2 : Int32) (S : St), L_X6_needs_18 Q n x1 x2 S → CF E S 18 [(0, .ref (adr (vG E) 0 0)), (1, .int x1), (2, .int x2)] [] := by
  intro n
  induction n with
  | zero =>
    intro x1 x2 S hm
    exact hm.elim
  | succ n ih =>
    intro x1 x2 S hm
    unfold L_X6_needs_18 at hm
    refine cf_iload_n C dX6_needs_18 rfl 2 rfl ?_
    refine cf_bipush C dX6_needs_19 (v := 99) rfl ?_
    refine cf_icmp_gt C (tgt := 62) dX6_needs_21 (by decide) hm (fun hm => ?_) (fun hm => ?_)
    · refine cf_aload_n C dX6_needs_62 rfl 0 rfl ?_
      refine cf_iconst C dX6_needs_63 (v := 2) rfl ?_
      refine cf_callVi C [.int 2] [] okC_0.1 (ocell_6 okC_0.2.1) rfl q316 q0 (c_X6_wrong (vL E) (vG E) 2 _ _  hm) q314 q317 q65 md_X6_wrong (Nat.le_of_ble_eq_true rfl) (Nat.le_of_ble_eq_true rfl) rfl rfl (Nat.le_of_ble_eq_true rfl) dX6_needs_64 (fun v4 S3 hm => ?_)
      exact hR _ _ _ _ dX6_needs_67 hm
    · refine cf_aload_n C dX6_needs_24 rfl 0 rfl ?_
      refine gf_6_3 C inX6 okC_0 q279 dX6_needs_25 ?_
      refine cf_aload_n C dX6_needs_28 rfl 0 rfl ?_
      refine gf_6_2 C inX6 okC_0 q278 dX6_needs_29 ?_
      refine cf_callVv C [.ref (adr (vG E) 3 0)] [] okC_5.1 (ocell_4 okC_5.2.1) rfl q535 q536 (c_X4_takeFrom (vL E) (vG E) 5 3 _ _ okC_5 okC_3 hm) q534 q537 q68 md_X4_takeFrom (Nat.le_of_ble_eq_true rfl) (Nat.le_of_ble_eq_true rfl) rfl rfl (Nat.le_of_ble_eq_true rfl) dX6_needs_32 (fun S5 hm => ?_)
      refine cf_aload_n C dX6_needs_35 rfl 0 rfl ?_
      refine gf_6_3 C inX6 okC_0 q279 dX6_needs_36 ?_
      refine cf_iload_n C dX6_needs_39 rfl 1 rfl ?_
      refine cf_iload_n C dX6_needs_40 rfl 2 rfl ?_
      refine cf_callVv C [.int x1, .int x2] [] okC_5.1 (ocell_4 okC_5.2.1) rfl q503 q504 (c_X4_pass (vL E) (vG E) 5 x1 x2 _ _ okC_5 hm) q502 q505 q68 md_X4_pass (Nat.le_of_ble_eq_true rfl) (Nat.le_of_ble_eq_true rfl) rfl rfl (Nat.le_of_ble_eq_true rfl) dX6_needs_41 (fun S6 hm => ?_)
      refine cf_aload_n C dX6_needs_44 rfl 0 rfl ?_
      refine gf_6_3 C inX6 okC_0 q279 dX6_needs_45 ?_
      refine cf_callVi C [] [] okC_5.1 (ocell_4 okC_5.2.1) rfl q508 q509 (c_X4_left (vL E) (vG E) 5 _ _ okC_5 hm) q507 q510 q68 md_X4_left (Nat.le_of_ble_eq_true rfl) (Nat.le_of_ble_eq_true rfl) rfl rfl (Nat.le_of_ble_eq_true rfl) dX6_needs_48 (fun v8 S7 hm => ?_)
      refine cf_if_ne C (tgt := 56) dX6_needs_51 (by decide) hm (fun hm => ?_) (fun hm => ?_)
      · refine cf_iincN C (L1 := fun v9 => [(2, .int v9), (0, .ref (adr (vG E) 0 0)), (1, .int x1)]) dX6_needs_56 2 rfl rfl (by decide) (fun _ => rfl) hm (fun v9 hm => ?_)
        refine cf_goto C (tgt := 18) dX6_needs_59 (by decide) ?_
        refine cf_sub C [1, 2, 0] rfl ?_
        exact ih x1 v9 _ hm
      · refine cf_iload_n C dX6_needs_54 rfl 2 rfl ?_
        exact hR _ _ _ _ dX6_needs_55 hm
def E_X6_needs (x1 : Int32) (S : St) (Q : Int32 → St → Prop) : Prop := E_X6_within x1 0 20 S (fun v2 S1 => if v2 = 0 then (E_X6_wrong 1 S1 (fun v11 S10 => Q v11 S10)) else (∃ k, L_X6_needs_18 Q k x1 0 S1))
set_option maxRecDepth 20000 in
theorem c_X6_needs (l : Launch) (G : GX) (x1 : Int32) (S : St) (Q : Int32 → St → Prop)  (hm : E_X6_needs x1 S Q) : CTi l yX6_needs (Cond.code yX6_needs cX6_needs 3 (some .int) :: AW) { frames := 7, cells := 0, slots := 0, locals := 163 } G enC [.ref (adr G 0 0), .int x1] S Q := by
  refine ct_start_i (by decide) enC_nd (Nat.le_of_ble_eq_true rfl) (fun E hG hl C hR => ?_)
  subst hG
  subst hl
  show CF E S 0 [(0, .ref (adr (vG E) 0 0)), (1, .int x1)] []
  unfold E_X6_needs at hm
  refine cf_iload_n C dX6_needs_0 rfl 1 rfl ?_
  refine cf_iconst C dX6_needs_1 (v := 0) rfl ?_
  refine cf_bipush C dX6_needs_2 (v := 20) rfl ?_
  refine cf_callSi C [.int x1, .int 0, .int 20] [] q312 (c_X6_within (vL E) (vG E) x1 0 20 _ _  hm) q311 q313 q65 md_X6_within (Nat.le_of_ble_eq_true rfl) (Nat.le_of_ble_eq_true rfl) rfl rfl (Nat.le_of_ble_eq_true rfl) dX6_needs_4 (fun v2 S1 hm => ?_)
  refine cf_if_ne C (tgt := 16) dX6_needs_7 (by decide) hm (fun hm => ?_) (fun hm => ?_)
  · refine cf_iconst C dX6_needs_16 (v := 0) rfl ?_
    refine cf_istore_n C (L1 := [(2, .int 0), (0, .ref (adr (vG E) 0 0)), (1, .int x1)]) dX6_needs_17 rfl (by decide) rfl ?_
    refine cf_sub C [1, 2, 0] rfl ?_
    obtain ⟨k, hm⟩ := hm
    exact w_L_X6_needs_18 C hR k x1 0 _ hm
  · refine cf_aload_n C dX6_needs_10 rfl 0 rfl ?_
    refine cf_iconst C dX6_needs_11 (v := 1) rfl ?_
    refine cf_callVi C [.int 1] [] okC_0.1 (ocell_6 okC_0.2.1) rfl q316 q0 (c_X6_wrong (vL E) (vG E) 1 _ _  hm) q314 q317 q65 md_X6_wrong (Nat.le_of_ble_eq_true rfl) (Nat.le_of_ble_eq_true rfl) rfl rfl (Nat.le_of_ble_eq_true rfl) dX6_needs_12 (fun v11 S10 hm => ?_)
    exact hR _ _ _ _ dX6_needs_15 hm

def E_J6_bitCount_0f7a4 (x0 : Int32) (S : St) (Q : Int32 → St → Prop) : Prop := nmI (x0 - (((x0.toUInt32 >>> ((1 : Int32).toUInt32 &&& Int32.toUInt32 31)).toInt32) &&& 1431655765)) (fun v1 => nmI ((v1 &&& 858993459) + (((v1.toUInt32 >>> ((2 : Int32).toUInt32 &&& Int32.toUInt32 31)).toInt32) &&& 858993459)) (fun v2 => nmI ((v2 + ((v2.toUInt32 >>> ((4 : Int32).toUInt32 &&& Int32.toUInt32 31)).toInt32)) &&& 252645135) (fun v3 => nmI (v3 + ((v3.toUInt32 >>> ((8 : Int32).toUInt32 &&& Int32.toUInt32 31)).toInt32)) (fun v4 => nmI (v4 + ((v4.toUInt32 >>> ((16 : Int32).toUInt32 &&& Int32.toUInt32 31)).toInt32)) (fun v5 => Q (v5 &&& 63) S)))))
set_option maxRecDepth 20000 in
theorem c_J6_bitCount_0f7a4 (l : Launch) (G : GX) (x0 : Int32) (S : St) (Q : Int32 → St → Prop)  (hm : E_J6_bitCount_0f7a4 x0 S Q) : CTi l yJ6_bitCount_0f7a4 (Cond.code yJ6_bitCount_0f7a4 cJ6_bitCount_0f7a4 1 (some .int) :: AW) { frames := 0, cells := 0, slots := 0, locals := 0 } G enC [.int x0] S Q := by
  refine ct_start_i (by decide) enC_nd (Nat.le_of_ble_eq_true rfl) (fun E hG hl C hR => ?_)
  subst hG
  subst hl
  show CF E S 0 [(0, .int x0)] []
  unfold E_J6_bitCount_0f7a4 at hm
  refine cf_iload_n C dJ6_bitCount_0f7a4_0 rfl 0 rfl ?_
  refine cf_iload_n C dJ6_bitCount_0f7a4_1 rfl 0 rfl ?_
  refine cf_iconst C dJ6_bitCount_0f7a4_2 (v := 1) rfl ?_
  refine cf_iushr C dJ6_bitCount_0f7a4_3 ?_
  refine cf_ldcw C dJ6_bitCount_0f7a4_4 q553 ?_
  refine cf_iand C dJ6_bitCount_0f7a4_7 ?_
  refine cf_isub C dJ6_bitCount_0f7a4_8 ?_
  refine cf_nmI hm (fun v1 hm => ?_)
  refine cf_istore_n C (L1 := [(0, .int v1)]) dJ6_bitCount_0f7a4_9 rfl (by decide) rfl ?_
  refine cf_iload_n C dJ6_bitCount_0f7a4_10 rfl 0 rfl ?_
  refine cf_ldcw C dJ6_bitCount_0f7a4_11 q554 ?_
  refine cf_iand C dJ6_bitCount_0f7a4_14 ?_
  refine cf_iload_n C dJ6_bitCount_0f7a4_15 rfl 0 rfl ?_
  refine cf_iconst C dJ6_bitCount_0f7a4_16 (v := 2) rfl ?_
  refine cf_iushr C dJ6_bitCount_0f7a4_17 ?_
  refine cf_ldcw C dJ6_bitCount_0f7a4_18 q554 ?_
  refine cf_iand C dJ6_bitCount_0f7a4_21 ?_
  refine cf_iadd C dJ6_bitCount_0f7a4_22 ?_
  refine cf_nmI hm (fun v2 hm => ?_)
  refine cf_istore_n C (L1 := [(0, .int v2)]) dJ6_bitCount_0f7a4_23 rfl (by decide) rfl ?_
  refine cf_iload_n C dJ6_bitCount_0f7a4_24 rfl 0 rfl ?_
  refine cf_iload_n C dJ6_bitCount_0f7a4_25 rfl 0 rfl ?_
  refine cf_iconst C dJ6_bitCount_0f7a4_26 (v := 4) rfl ?_
  refine cf_iushr C dJ6_bitCount_0f7a4_27 ?_
  refine cf_iadd C dJ6_bitCount_0f7a4_28 ?_
  refine cf_ldcw C dJ6_bitCount_0f7a4_29 q555 ?_
  refine cf_iand C dJ6_bitCount_0f7a4_32 ?_
  refine cf_nmI hm (fun v3 hm => ?_)
  refine cf_istore_n C (L1 := [(0, .int v3)]) dJ6_bitCount_0f7a4_33 rfl (by decide) rfl ?_
  refine cf_iload_n C dJ6_bitCount_0f7a4_34 rfl 0 rfl ?_
  refine cf_iload_n C dJ6_bitCount_0f7a4_35 rfl 0 rfl ?_
  refine cf_bipush C dJ6_bitCount_0f7a4_36 (v := 8) rfl ?_
  refine cf_iushr C dJ6_bitCount_0f7a4_38 ?_
  refine cf_iadd C dJ6_bitCount_0f7a4_39 ?_
  refine cf_nmI hm (fun v4 hm => ?_)
  refine cf_istore_n C (L1 := [(0, .int v4)]) dJ6_bitCount_0f7a4_40 rfl (by decide) rfl ?_
  refine cf_iload_n C dJ6_bitCount_0f7a4_41 rfl 0 rfl ?_
  refine cf_iload_n C dJ6_bitCount_0f7a4_42 rfl 0 rfl ?_
  refine cf_bipush C dJ6_bitCount_0f7a4_43 (v := 16) rfl ?_
  refine cf_iushr C dJ6_bitCount_0f7a4_45 ?_
  refine cf_iadd C dJ6_bitCount_0f7a4_46 ?_
  refine cf_nmI hm (fun v5 hm => ?_)
  refine cf_istore_n C (L1 := [(0, .int v5)]) dJ6_bitCount_0f7a4_47 rfl (by decide) rfl ?_
  refine cf_iload_n C dJ6_bitCount_0f7a4_48 rfl 0 rfl ?_
  refine cf_bipush C dJ6_bitCount_0f7a4_49 (v := 63) rfl ?_
  refine cf_iand C dJ6_bitCount_0f7a4_51 ?_
  exact hR _ _ _ _ dJ6_bitCount_0f7a4_52 hm

def L_X6_rulesWithout_56    (Q : Int32 → St → Prop) : Nat → Int32 → Int32 → Int32 → Int32 → St → Prop
  | 0 => fun _ _ _ _ _ => False
  | n + 1 => fun x2 x3 x4 x5 S => if x3 ≤ x5 then (E_X4_sayer 5 S (fun v3 S2 => if v3 = x2 then (Q 1 S2) else (Q 0 S2))) else (vp_in x2 9 ∧ (if (S.2 5 7 x2.toNatClampNeg) = 0 then (Q 0 S) else (E_X4_dine 5 x4 S (fun v5 S4 => nmI (x5 + 1) (fun v6 => L_X6_rulesWithout_56 Q n x2 x3 x4 v6 S4)))))
set_option maxRecDepth 20000 in
theorem w_L_X6_rulesWithout_56 {E : EV} {Q : Int32 → St → Prop}   (C : CX E cX6_rulesWithout RX6 6 enC 6 140)   (hR : RTz E cX6_rulesWithout Q) : ∀ (n : Nat) (x2 : Int32) (x3 : Int32) (x4 : Int32) (x5 : Int32) (S : St), L_X6_rulesWithout_56 Q n x2 x3 x4 x5 S → CF E S 56 [(0, .ref (adr (vG E) 0 0)), (2, .int x2), (3, .int x3), (4, .int x4), (5, .int x5)] [] := by
  intro n
  induction n with
  | zero =>
    intro x2 x3 x4 x5 S hm
    exact hm.elim
  | succ n ih =>
    intro x2 x3 x4 x5 S hm
    unfold L_X6_rulesWithout_56 at hm
    refine cf_iload C dX6_rulesWithout_56 4 rfl ?_
    refine cf_iload_n C dX6_rulesWithout_58 rfl 2 rfl ?_
    refine cf_icmp_ge C (tgt := 92) dX6_rulesWithout_59 (by decide) hm (fun hm => ?_) (fun hm => ?_)
    · refine cf_aload_n C dX6_rulesWithout_92 rfl 0 rfl ?_
      refine gf_6_3 C inX6 okC_0 q279 dX6_rulesWithout_93 ?_
      refine cf_callVi C [] [] okC_5.1 (ocell_4 okC_5.2.1) rfl q366 q367 (c_X4_sayer (vL E) (vG E) 5 _ _ okC_5 hm) q365 q368 q68 md_X4_sayer (Nat.le_of_ble_eq_true rfl) (Nat.le_of_ble_eq_true rfl) rfl rfl (Nat.le_of_ble_eq_true rfl) dX6_rulesWithout_96 (fun v3 S2 hm => ?_)
      refine cf_iload_n C dX6_rulesWithout_99 rfl 1 rfl ?_
      refine cf_icmp_ne C (tgt := 107) dX6_rulesWithout_100 (by decide) hm (fun hm => ?_) (fun hm => ?_)
      · refine cf_iconst C dX6_rulesWithout_107 (v := 0) rfl ?_
        exact hR _ _ _ _ dX6_rulesWithout_108 (Or.inl rfl) hm
      · refine cf_iconst C dX6_rulesWithout_103 (v := 1) rfl ?_
        refine cf_goto C (tgt := 108) dX6_rulesWithout_104 (by decide) ?_
        exact hR _ _ _ _ dX6_rulesWithout_108 (Or.inr rfl) hm
    · refine cf_aload_n C dX6_rulesWithout_62 rfl 0 rfl ?_
      refine gf_6_3 C inX6 okC_0 q279 dX6_rulesWithout_63 ?_
      refine gf_4_7 C inX4 okC_5 q136 dX6_rulesWithout_66 ?_
      refine cf_iload_n C dX6_rulesWithout_69 rfl 1 rfl ?_
      refine cf_iald C (okA_of 7 okC_5 rfl (by decide) (by decide) (by decide)) dX6_rulesWithout_70 hm (fun hm => ?_)
      refine cf_if_ne C (tgt := 76) dX6_rulesWithout_71 (by decide) hm (fun hm => ?_) (fun hm => ?_)
      · refine cf_aload_n C dX6_rulesWithout_76 rfl 0 rfl ?_
        refine gf_6_3 C inX6 okC_0 q279 dX6_rulesWithout_77 ?_
        refine cf_iload C dX6_rulesWithout_80 3 rfl ?_
        refine cf_callVi C [.int x4] [] okC_5.1 (ocell_4 okC_5.2.1) rfl q482 q483 (c_X4_dine (vL E) (vG E) 5 x4 _ _ okC_5 hm) q481 q484 q68 md_X4_dine (Nat.le_of_ble_eq_true rfl) (Nat.le_of_ble_eq_true rfl) rfl rfl (Nat.le_of_ble_eq_true rfl) dX6_rulesWithout_82 (fun v5 S4 hm => ?_)
        refine cf_pop C dX6_rulesWithout_85 rfl ?_
        refine cf_iincN C (L1 := fun v6 => [(5, .int v6), (0, .ref (adr (vG E) 0 0)), (2, .int x2), (3, .int x3), (4, .int x4)]) dX6_rulesWithout_86 4 rfl rfl (by decide) (fun _ => rfl) hm (fun v6 hm => ?_)
        refine cf_goto C (tgt := 56) dX6_rulesWithout_89 (by decide) ?_
        refine cf_sub C [1, 2, 3, 4, 0] rfl ?_
        exact ih x2 x3 x4 v6 _ hm
      · refine cf_iconst C dX6_rulesWithout_74 (v := 0) rfl ?_
        exact hR _ _ _ _ dX6_rulesWithout_75 (Or.inl rfl) hm
def L_X6_rulesWithout_14    (Q : Int32 → St → Prop) : Nat → Int32 → Int32 → Int32 → Int32 → Int32 → St → Prop
  | 0 => fun _ _ _ _ _ _ => False
  | n + 1 => fun x1 x2 x3 x4 x5 S => if (S.1 5 2) ≤ x5 then (∃ k, L_X6_rulesWithout_56 Q k x2 x3 x4 0 S) else (if ((x1 >>> (x5 &&& 31)) &&& 1) = 1 then (vp_in x5 9 ∧ (nmS (stR S 5 7 (upd (S.2 5 7) x5.toNatClampNeg 0)) (fun S8 => nmI (x5 + 1) (fun v9 => L_X6_rulesWithout_14 Q n x1 x2 x3 x4 v9 S8)))) else (nmI (x5 + 1) (fun v7 => L_X6_rulesWithout_14 Q n x1 x2 x3 x4 v7 S)))
set_option maxRecDepth 20000 in
theorem w_L_X6_rulesWithout_14 {E : EV} {Q : Int32 → St → Prop}   (C : CX E cX6_rulesWithout RX6 6 enC 6 140)   (hR : RTz E cX6_rulesWithout Q) : ∀ (n : Nat) (x1 : Int32) (x2 : Int32) (x3 : Int32) (x4 : Int32) (x5 : Int32) (S : St), L_X6_rulesWithout_14 Q n x1 x2 x3 x4 x5 S → CF E S 14 [(0, .ref (adr (vG E) 0 0)), (1, .int x1), (2, .int x2), (3, .int x3), (4, .int x4), (5, .int x5)] [] := by
  intro n
  induction n with
  | zero =>
    intro x1 x2 x3 x4 x5 S hm
    exact hm.elim
  | succ n ih =>
    intro x1 x2 x3 x4 x5 S hm
    unfold L_X6_rulesWithout_14 at hm
    refine cf_iload C dX6_rulesWithout_14 5 rfl ?_
    refine cf_aload_n C dX6_rulesWithout_16 rfl 0 rfl ?_
    refine gf_6_3 C inX6 okC_0 q279 dX6_rulesWithout_17 ?_
    refine gf_4_2 C inX4 okC_5 q122 dX6_rulesWithout_20 ?_
    refine cf_icmp_ge C (tgt := 53) dX6_rulesWithout_23 (by decide) hm (fun hm => ?_) (fun hm => ?_)
    · refine cf_iconst C dX6_rulesWithout_53 (v := 0) rfl ?_
      refine cf_istore C (L1 := [(5, .int 0), (0, .ref (adr (vG E) 0 0)), (1, .int x1), (2, .int x2), (3, .int x3), (4, .int x4)]) dX6_rulesWithout_54 (by decide) rfl ?_
      refine cf_sub C [1, 3, 4, 5, 0] rfl ?_
      obtain ⟨k, hm⟩ := hm
      exact w_L_X6_rulesWithout_56 C hR k x2 x3 x4 0 _ hm
    · refine cf_iload_n C dX6_rulesWithout_26 rfl 1 rfl ?_
      refine cf_iload C dX6_rulesWithout_27 5 rfl ?_
      refine cf_ishr C dX6_rulesWithout_29 ?_
      refine cf_iconst C dX6_rulesWithout_30 (v := 1) rfl ?_
      refine cf_iand C dX6_rulesWithout_31 ?_
      refine cf_iconst C dX6_rulesWithout_32 (v := 1) rfl ?_
      refine cf_icmp_ne C (tgt := 47) dX6_rulesWithout_33 (by decide) hm (fun hm => ?_) (fun hm => ?_)
      · refine cf_iincN C (L1 := fun v7 => [(5, .int v7), (0, .ref (adr (vG E) 0 0)), (1, .int x1), (2, .int x2), (3, .int x3), (4, .int x4)]) dX6_rulesWithout_47 5 rfl rfl (by decide) (fun _ => rfl) hm (fun v7 hm => ?_)
        refine cf_goto C (tgt := 14) dX6_rulesWithout_50 (by decide) ?_
        refine cf_sub C [1, 2, 3, 4, 5, 0] rfl ?_
        exact ih x1 x2 x3 x4 v7 _ hm
      · refine cf_aload_n C dX6_rulesWithout_36 rfl 0 rfl ?_
        refine gf_6_3 C inX6 okC_0 q279 dX6_rulesWithout_37 ?_
        refine gf_4_7 C inX4 okC_5 q136 dX6_rulesWithout_40 ?_
        refine cf_iload C dX6_rulesWithout_43 5 rfl ?_
        refine cf_iconst C dX6_rulesWithout_45 (v := 0) rfl ?_
        refine cf_iast C (okA_of 7 okC_5 rfl (by decide) (by decide) (by decide)) dX6_rulesWithout_46 hm (fun hm => ?_)
        refine cf_nmS hm (fun S8 hm => ?_)
        refine cf_iincN C (L1 := fun v9 => [(5, .int v9), (0, .ref (adr (vG E) 0 0)), (1, .int x1), (2, .int x2), (3, .int x3), (4, .int x4)]) dX6_rulesWithout_47 5 rfl rfl (by decide) (fun _ => rfl) hm (fun v9 hm => ?_)
        refine cf_goto C (tgt := 14) dX6_rulesWithout_50 (by decide) ?_
        refine cf_sub C [1, 2, 3, 4, 5, 0] rfl ?_
        exact ih x1 x2 x3 x4 v9 _ hm
def E_X6_rulesWithout (x1 : Int32) (x2 : Int32) (x3 : Int32) (x4 : Int32) (S : St) (Q : Int32 → St → Prop) : Prop := E_X4_takeFrom 5 3 S (fun S1 => ∃ k, L_X6_rulesWithout_14 Q k x1 x2 x3 x4 0 S1)
set_option maxRecDepth 20000 in
theorem c_X6_rulesWithout (l : Launch) (G : GX) (x1 : Int32) (x2 : Int32) (x3 : Int32) (x4 : Int32) (S : St) (Q : Int32 → St → Prop)  (hm : E_X6_rulesWithout x1 x2 x3 x4 S Q) : CTi l yX6_rulesWithout (Cond.code yX6_rulesWithout cX6_rulesWithout 6 (some .boolean) :: AW) { frames := 6, cells := 0, slots := 0, locals := 140 } G enC [.ref (adr G 0 0), .int x1, .int x2, .int x3, .int x4] S Q := by
  refine ct_start_z (by decide) enC_nd (Nat.le_of_ble_eq_true rfl) (fun E hG hl C hR => ?_)
  subst hG
  subst hl
  show CF E S 0 [(0, .ref (adr (vG E) 0 0)), (1, .int x1), (2, .int x2), (3, .int x3), (4, .int x4)] []
  unfold E_X6_rulesWithout at hm
  refine cf_aload_n C dX6_rulesWithout_0 rfl 0 rfl ?_
  refine gf_6_3 C inX6 okC_0 q279 dX6_rulesWithout_1 ?_
  refine cf_aload_n C dX6_rulesWithout_4 rfl 0 rfl ?_
  refine gf_6_2 C inX6 okC_0 q278 dX6_rulesWithout_5 ?_
  refine cf_callVv C [.ref (adr (vG E) 3 0)] [] okC_5.1 (ocell_4 okC_5.2.1) rfl q535 q536 (c_X4_takeFrom (vL E) (vG E) 5 3 _ _ okC_5 okC_3 hm) q534 q537 q68 md_X4_takeFrom (Nat.le_of_ble_eq_true rfl) (Nat.le_of_ble_eq_true rfl) rfl rfl (Nat.le_of_ble_eq_true rfl) dX6_rulesWithout_8 (fun S1 hm => ?_)
  refine cf_iconst C dX6_rulesWithout_11 (v := 0) rfl ?_
  refine cf_istore C (L1 := [(5, .int 0), (0, .ref (adr (vG E) 0 0)), (1, .int x1), (2, .int x2), (3, .int x3), (4, .int x4)]) dX6_rulesWithout_12 (by decide) rfl ?_
  refine cf_sub C [1, 2, 3, 4, 5, 0] rfl ?_
  obtain ⟨k, hm⟩ := hm
  exact w_L_X6_rulesWithout_14 C hR k x1 x2 x3 x4 0 _ hm

def L_X6_clears_73   (K58 : Int32 → Int32 → Int32 → Int32 → Int32 → Int32 → St → Prop) (Q : Int32 → St → Prop) : Nat → Int32 → Int32 → Int32 → Int32 → Int32 → Int32 → Int32 → St → Prop
  | 0 => fun _ _ _ _ _ _ _ _ => False
  | n + 1 => fun x1 x2 x3 x4 x5 x6 x7 S => if x5 ≤ x7 then (nmI (x6 + 1) (fun v18 => K58 x1 x2 x3 x4 x5 v18 S)) else (E_J6_bitCount_0f7a4 x7 S (fun v20 S19 => if v20 = x6 then (E_X6_rulesWithout x7 x1 x2 x3 S19 (fun v23 S22 => if v23 = 0 then (nmI (x7 + 1) (fun v24 => L_X6_clears_73 K58 Q n x1 x2 x3 x4 x5 x6 v24 S22)) else (if x4 = 0 then (Q x6 S22) else (Q x7 S22)))) else (nmI (x7 + 1) (fun v21 => L_X6_clears_73 K58 Q n x1 x2 x3 x4 x5 x6 v21 S19))))
set_option maxRecDepth 20000 in
theorem w_L_X6_clears_73 {E : EV} {Q : Int32 → St → Prop}   (C : CX E cX6_clears RX6 8 enC 7 165)   (hR : RTi E cX6_clears Q) {K58 : Int32 → Int32 → Int32 → Int32 → Int32 → Int32 → St → Prop} (hK58 : ∀ (x1 : Int32) (x2 : Int32) (x3 : Int32) (x4 : Int32) (x5 : Int32) (x6 : Int32) (S : St), K58 x1 x2 x3 x4 x5 x6 S → CF E S 58 [(0, .ref (adr (vG E) 0 0)), (1, .int x1), (2, .int x2), (3, .int x3), (4, .int x4), (5, .int x5), (6, .int x6)] []) : ∀ (n : Nat) (x1 : Int32) (x2 : Int32) (x3 : Int32) (x4 : Int32) (x5 : Int32) (x6 : Int32) (x7 : Int32) (S : St), L_X6_clears_73 K58 Q n x1 x2 x3 x4 x5 x6 x7 S → CF E S 73 [(0, .ref (adr (vG E) 0 0)), (1, .int x1), (2, .int x2), (3, .int x3), (4, .int x4), (5, .int x5), (6, .int x6), (7, .int x7)] [] := by
  intro n
  induction n with
  | zero =>
    intro x1 x2 x3 x4 x5 x6 x7 S hm
    exact hm.elim
  | succ n ih =>
    intro x1 x2 x3 x4 x5 x6 x7 S hm
    unfold L_X6_clears_73 at hm
    refine cf_iload C dX6_clears_73 7 rfl ?_
    refine cf_iload C dX6_clears_75 5 rfl ?_
    refine cf_icmp_ge C (tgt := 121) dX6_clears_77 (by decide) hm (fun hm => ?_) (fun hm => ?_)
    · refine cf_iincN C (L1 := fun v18 => [(6, .int v18), (0, .ref (adr (vG E) 0 0)), (1, .int x1), (2, .int x2), (3, .int x3), (4, .int x4), (5, .int x5), (7, .int x7)]) dX6_clears_121 6 rfl rfl (by decide) (fun _ => rfl) hm (fun v18 hm => ?_)
      refine cf_goto C (tgt := 58) dX6_clears_124 (by decide) ?_
      refine cf_sub C [1, 2, 3, 4, 5, 6, 0] rfl ?_
      exact hK58 x1 x2 x3 x4 x5 v18 _ hm
    · refine cf_iload C dX6_clears_80 7 rfl ?_
      refine cf_callSi C [.int x7] [] q551 (c_J6_bitCount_0f7a4 (vL E) (vG E) x7 _ _  hm) q550 q552 q75 md_J6_bitCount_0f7a4 (Nat.le_of_ble_eq_true rfl) (Nat.le_of_ble_eq_true rfl) rfl rfl (Nat.le_of_ble_eq_true rfl) dX6_clears_82 (fun v20 S19 hm => ?_)
      refine cf_iload C dX6_clears_85 6 rfl ?_
      refine cf_icmp_ne C (tgt := 115) dX6_clears_87 (by decide) hm (fun hm => ?_) (fun hm => ?_)
      · refine cf_iincN C (L1 := fun v21 => [(7, .int v21), (0, .ref (adr (vG E) 0 0)), (1, .int x1), (2, .int x2), (3, .int x3), (4, .int x4), (5, .int x5), (6, .int x6)]) dX6_clears_115 7 rfl rfl (by decide) (fun _ => rfl) hm (fun v21 hm => ?_)
        refine cf_goto C (tgt := 73) dX6_clears_118 (by decide) ?_
        refine cf_sub C [1, 2, 3, 4, 5, 6, 7, 0] rfl ?_
        exact ih x1 x2 x3 x4 x5 x6 v21 _ hm
      · refine cf_aload_n C dX6_clears_90 rfl 0 rfl ?_
        refine cf_iload C dX6_clears_91 7 rfl ?_
        refine cf_iload_n C dX6_clears_93 rfl 1 rfl ?_
        refine cf_iload_n C dX6_clears_94 rfl 2 rfl ?_
        refine cf_iload_n C dX6_clears_95 rfl 3 rfl ?_
        refine cf_callVi C [.int x7, .int x1, .int x2, .int x3] [] okC_0.1 (ocell_6 okC_0.2.1) rfl q558 q13 (c_X6_rulesWithout (vL E) (vG E) x7 x1 x2 x3 _ _  hm) q556 q559 q65 md_X6_rulesWithout (Nat.le_of_ble_eq_true rfl) (Nat.le_of_ble_eq_true rfl) rfl rfl (Nat.le_of_ble_eq_true rfl) dX6_clears_96 (fun v23 S22 hm => ?_)
        refine cf_if_eq C (tgt := 115) dX6_clears_99 (by decide) hm (fun hm => ?_) (fun hm => ?_)
        · refine cf_iincN C (L1 := fun v24 => [(7, .int v24), (0, .ref (adr (vG E) 0 0)), (1, .int x1), (2, .int x2), (3, .int x3), (4, .int x4), (5, .int x5), (6, .int x6)]) dX6_clears_115 7 rfl rfl (by decide) (fun _ => rfl) hm (fun v24 hm => ?_)
          refine cf_goto C (tgt := 73) dX6_clears_118 (by decide) ?_
          refine cf_sub C [1, 2, 3, 4, 5, 6, 7, 0] rfl ?_
          exact ih x1 x2 x3 x4 x5 x6 v24 _ hm
        · refine cf_iload C dX6_clears_102 4 rfl ?_
          refine cf_if_ne C (tgt := 112) dX6_clears_104 (by decide) hm (fun hm => ?_) (fun hm => ?_)
          · refine cf_iload C dX6_clears_112 7 rfl ?_
            exact hR _ _ _ _ dX6_clears_114 hm
          · refine cf_iload C dX6_clears_107 6 rfl ?_
            refine cf_goto C (tgt := 114) dX6_clears_109 (by decide) ?_
            exact hR _ _ _ _ dX6_clears_114 hm
def L_X6_clears_58    (Q : Int32 → St → Prop) : Nat → Int32 → Int32 → Int32 → Int32 → Int32 → Int32 → St → Prop
  | 0 => fun _ _ _ _ _ _ _ => False
  | n + 1 => fun x1 x2 x3 x4 x5 x6 S => if (S.1 3 2) < x6 then (E_X6_wrong 2 S (fun v17 S16 => Q v17 S16)) else (∃ k, L_X6_clears_73 (L_X6_clears_58 Q n) Q k x1 x2 x3 x4 x5 x6 0 S)
set_option maxRecDepth 20000 in
theorem w_L_X6_clears_58 {E : EV} {Q : Int32 → St → Prop}   (C : CX E cX6_clears RX6 8 enC 7 165)   (hR : RTi E cX6_clears Q) : ∀ (n : Nat) (x1 : Int32) (x2 : Int32) (x3 : Int32) (x4 : Int32) (x5 : Int32) (x6 : Int32) (S : St), L_X6_clears_58 Q n x1 x2 x3 x4 x5 x6 S → CF E S 58 [(0, .ref (adr (vG E) 0 0)), (1, .int x1), (2, .int x2), (3, .int x3), (4, .int x4), (5, .int x5), (6, .int x6)] [] := by
  intro n
  induction n with
  | zero =>
    intro x1 x2 x3 x4 x5 x6 S hm
    exact hm.elim
  | succ n ih =>
    intro x1 x2 x3 x4 x5 x6 S hm
    unfold L_X6_clears_58 at hm
    refine cf_iload C dX6_clears_58 6 rfl ?_
    refine cf_aload_n C dX6_clears_60 rfl 0 rfl ?_
    refine gf_6_2 C inX6 okC_0 q278 dX6_clears_61 ?_
    refine gf_4_2 C inX4 okC_3 q122 dX6_clears_64 ?_
    refine cf_icmp_gt C (tgt := 127) dX6_clears_67 (by decide) hm (fun hm => ?_) (fun hm => ?_)
    · refine cf_aload_n C dX6_clears_127 rfl 0 rfl ?_
      refine cf_iconst C dX6_clears_128 (v := 2) rfl ?_
      refine cf_callVi C [.int 2] [] okC_0.1 (ocell_6 okC_0.2.1) rfl q316 q0 (c_X6_wrong (vL E) (vG E) 2 _ _  hm) q314 q317 q65 md_X6_wrong (Nat.le_of_ble_eq_true rfl) (Nat.le_of_ble_eq_true rfl) rfl rfl (Nat.le_of_ble_eq_true rfl) dX6_clears_129 (fun v17 S16 hm => ?_)
      exact hR _ _ _ _ dX6_clears_132 hm
    · refine cf_iconst C dX6_clears_70 (v := 0) rfl ?_
      refine cf_istore C (L1 := [(7, .int 0), (0, .ref (adr (vG E) 0 0)), (1, .int x1), (2, .int x2), (3, .int x3), (4, .int x4), (5, .int x5), (6, .int x6)]) dX6_clears_71 (by decide) rfl ?_
      refine cf_sub C [1, 2, 3, 4, 5, 6, 7, 0] rfl ?_
      obtain ⟨k, hm⟩ := hm
      exact w_L_X6_clears_73 C hR ih k x1 x2 x3 x4 x5 x6 0 _ hm
def E_X6_clears (x1 : Int32) (x2 : Int32) (x3 : Int32) (x4 : Int32) (S : St) (Q : Int32 → St → Prop) : Prop := E_X4_has 3 x1 S (fun v2 S1 => if v2 = 0 then (E_X6_wrong 1 S1 (fun v4 S3 => Q v4 S3)) else (E_X6_within x2 0 6 S1 (fun v6 S5 => if v6 = 0 then (E_X6_wrong 1 S5 (fun v8 S7 => Q v8 S7)) else (E_X6_isHunger x3 S5 (fun v10 S9 => if v10 = 0 then (E_X6_wrong 1 S9 (fun v12 S11 => Q v12 S11)) else (E_X6_within x4 0 1 S9 (fun v14 S13 => if v14 = 0 then (E_X6_wrong 1 S13 (fun v26 S25 => Q v26 S25)) else (nmI (1 <<< ((S13.1 3 2) &&& 31)) (fun v15 => ∃ k, L_X6_clears_58 Q k x1 x2 x3 x4 v15 0 S13)))))))))
set_option maxRecDepth 20000 in
theorem c_X6_clears (l : Launch) (G : GX) (x1 : Int32) (x2 : Int32) (x3 : Int32) (x4 : Int32) (S : St) (Q : Int32 → St → Prop)  (hm : E_X6_clears x1 x2 x3 x4 S Q) : CTi l yX6_clears (Cond.code yX6_clears cX6_clears 8 (some .int) :: AW) { frames := 7, cells := 0, slots := 0, locals := 165 } G enC [.ref (adr G 0 0), .int x1, .int x2, .int x3, .int x4] S Q := by
  refine ct_start_i (by decide) enC_nd (Nat.le_of_ble_eq_true rfl) (fun E hG hl C hR => ?_)
  subst hG
  subst hl
  show CF E S 0 [(0, .ref (adr (vG E) 0 0)), (1, .int x1), (2, .int x2), (3, .int x3), (4, .int x4)] []
  unfold E_X6_clears at hm
  refine cf_aload_n C dX6_clears_0 rfl 0 rfl ?_
  refine gf_6_2 C inX6 okC_0 q278 dX6_clears_1 ?_
  refine cf_iload_n C dX6_clears_4 rfl 1 rfl ?_
  refine cf_callVi C [.int x1] [] okC_3.1 (ocell_4 okC_3.2.1) rfl q328 q329 (c_X4_has (vL E) (vG E) 3 x1 _ _ okC_3 hm) q327 q330 q68 md_X4_has (Nat.le_of_ble_eq_true rfl) (Nat.le_of_ble_eq_true rfl) rfl rfl (Nat.le_of_ble_eq_true rfl) dX6_clears_5 (fun v2 S1 hm => ?_)
  refine cf_if_eq C (tgt := 38) dX6_clears_8 (by decide) hm (fun hm => ?_) (fun hm => ?_)
  · refine cf_aload_n C dX6_clears_38 rfl 0 rfl ?_
    refine cf_iconst C dX6_clears_39 (v := 1) rfl ?_
    refine cf_callVi C [.int 1] [] okC_0.1 (ocell_6 okC_0.2.1) rfl q316 q0 (c_X6_wrong (vL E) (vG E) 1 _ _  hm) q314 q317 q65 md_X6_wrong (Nat.le_of_ble_eq_true rfl) (Nat.le_of_ble_eq_true rfl) rfl rfl (Nat.le_of_ble_eq_true rfl) dX6_clears_40 (fun v4 S3 hm => ?_)
    exact hR _ _ _ _ dX6_clears_43 hm
  · refine cf_iload_n C dX6_clears_11 rfl 2 rfl ?_
    refine cf_iconst C dX6_clears_12 (v := 0) rfl ?_
    refine cf_bipush C dX6_clears_13 (v := 6) rfl ?_
    refine cf_callSi C [.int x2, .int 0, .int 6] [] q312 (c_X6_within (vL E) (vG E) x2 0 6 _ _  hm) q311 q313 q65 md_X6_within (Nat.le_of_ble_eq_true rfl) (Nat.le_of_ble_eq_true rfl) rfl rfl (Nat.le_of_ble_eq_true rfl) dX6_clears_15 (fun v6 S5 hm => ?_)
    refine cf_if_eq C (tgt := 38) dX6_clears_18 (by decide) hm (fun hm => ?_) (fun hm => ?_)
    · refine cf_aload_n C dX6_clears_38 rfl 0 rfl ?_
      refine cf_iconst C dX6_clears_39 (v := 1) rfl ?_
      refine cf_callVi C [.int 1] [] okC_0.1 (ocell_6 okC_0.2.1) rfl q316 q0 (c_X6_wrong (vL E) (vG E) 1 _ _  hm) q314 q317 q65 md_X6_wrong (Nat.le_of_ble_eq_true rfl) (Nat.le_of_ble_eq_true rfl) rfl rfl (Nat.le_of_ble_eq_true rfl) dX6_clears_40 (fun v8 S7 hm => ?_)
      exact hR _ _ _ _ dX6_clears_43 hm
    · refine cf_iload_n C dX6_clears_21 rfl 3 rfl ?_
      refine cf_callSi C [.int x3] [] q479 (c_X6_isHunger (vL E) (vG E) x3 _ _  hm) q478 q480 q65 md_X6_isHunger (Nat.le_of_ble_eq_true rfl) (Nat.le_of_ble_eq_true rfl) rfl rfl (Nat.le_of_ble_eq_true rfl) dX6_clears_22 (fun v10 S9 hm => ?_)
      refine cf_if_eq C (tgt := 38) dX6_clears_25 (by decide) hm (fun hm => ?_) (fun hm => ?_)
      · refine cf_aload_n C dX6_clears_38 rfl 0 rfl ?_
        refine cf_iconst C dX6_clears_39 (v := 1) rfl ?_
        refine cf_callVi C [.int 1] [] okC_0.1 (ocell_6 okC_0.2.1) rfl q316 q0 (c_X6_wrong (vL E) (vG E) 1 _ _  hm) q314 q317 q65 md_X6_wrong (Nat.le_of_ble_eq_true rfl) (Nat.le_of_ble_eq_true rfl) rfl rfl (Nat.le_of_ble_eq_true rfl) dX6_clears_40 (fun v12 S11 hm => ?_)
        exact hR _ _ _ _ dX6_clears_43 hm
      · refine cf_iload C dX6_clears_28 4 rfl ?_
        refine cf_iconst C dX6_clears_30 (v := 0) rfl ?_
        refine cf_iconst C dX6_clears_31 (v := 1) rfl ?_
        refine cf_callSi C [.int x4, .int 0, .int 1] [] q312 (c_X6_within (vL E) (vG E) x4 0 1 _ _  hm) q311 q313 q65 md_X6_within (Nat.le_of_ble_eq_true rfl) (Nat.le_of_ble_eq_true rfl) rfl rfl (Nat.le_of_ble_eq_true rfl) dX6_clears_32 (fun v14 S13 hm => ?_)
        refine cf_if_ne C (tgt := 44) dX6_clears_35 (by decide) hm (fun hm => ?_) (fun hm => ?_)
        · refine cf_iconst C dX6_clears_44 (v := 1) rfl ?_
          refine cf_aload_n C dX6_clears_45 rfl 0 rfl ?_
          refine gf_6_2 C inX6 okC_0 q278 dX6_clears_46 ?_
          refine gf_4_2 C inX4 okC_3 q122 dX6_clears_49 ?_
          refine cf_ishl C dX6_clears_52 ?_
          refine cf_nmI hm (fun v15 hm => ?_)
          refine cf_istore C (L1 := [(5, .int v15), (0, .ref (adr (vG E) 0 0)), (1, .int x1), (2, .int x2), (3, .int x3), (4, .int x4)]) dX6_clears_53 (by decide) rfl ?_
          refine cf_iconst C dX6_clears_55 (v := 0) rfl ?_
          refine cf_istore C (L1 := [(6, .int 0), (5, .int v15), (0, .ref (adr (vG E) 0 0)), (1, .int x1), (2, .int x2), (3, .int x3), (4, .int x4)]) dX6_clears_56 (by decide) rfl ?_
          refine cf_sub C [2, 3, 4, 5, 6, 1, 0] rfl ?_
          obtain ⟨k, hm⟩ := hm
          exact w_L_X6_clears_58 C hR k x1 x2 x3 x4 v15 0 _ hm
        · refine cf_aload_n C dX6_clears_38 rfl 0 rfl ?_
          refine cf_iconst C dX6_clears_39 (v := 1) rfl ?_
          refine cf_callVi C [.int 1] [] okC_0.1 (ocell_6 okC_0.2.1) rfl q316 q0 (c_X6_wrong (vL E) (vG E) 1 _ _  hm) q314 q317 q65 md_X6_wrong (Nat.le_of_ble_eq_true rfl) (Nat.le_of_ble_eq_true rfl) rfl rfl (Nat.le_of_ble_eq_true rfl) dX6_clears_40 (fun v26 S25 hm => ?_)
          exact hR _ _ _ _ dX6_clears_43 hm

def L_X4_leftInKeeping_9 (o : Nat)   (Q : Int32 → St → Prop) : Nat → Int32 → Int32 → Int32 → St → Prop
  | 0 => fun _ _ _ _ => False
  | n + 1 => fun x1 x2 x3 S => if (S.1 o 2) ≤ x3 then (Q x2 S) else (vp_in x3 9 ∧ (if (S.2 o 7 x3.toNatClampNeg) ≤ 0 then (nmI (x3 + 1) (fun v3 => L_X4_leftInKeeping_9 o Q n x1 x2 v3 S)) else (E_X4_isKeptBy o x1 x3 S (fun v5 S4 => if v5 = 0 then (nmI (x3 + 1) (fun v6 => L_X4_leftInKeeping_9 o Q n x1 x2 v6 S4)) else (vp_in x3 9 ∧ (nmI (x2 + (S4.2 o 7 x3.toNatClampNeg)) (fun v7 => nmI (x3 + 1) (fun v8 => L_X4_leftInKeeping_9 o Q n x1 v7 v8 S4))))))))
set_option maxRecDepth 20000 in
theorem w_L_X4_leftInKeeping_9 {E : EV} {Q : Int32 → St → Prop} {o : Nat}  (C : CX E cX4_leftInKeeping RX4 4 enC 5 112) (ho : okO enC o 4)  (hR : RTi E cX4_leftInKeeping Q) : ∀ (n : Nat) (x1 : Int32) (x2 : Int32) (x3 : Int32) (S : St), L_X4_leftInKeeping_9 o Q n x1 x2 x3 S → CF E S 9 [(0, .ref (adr (vG E) o 0)), (1, .int x1), (2, .int x2), (3, .int x3)] [] := by
  intro n
  induction n with
  | zero =>
    intro x1 x2 x3 S hm
    exact hm.elim
  | succ n ih =>
    intro x1 x2 x3 S hm
    unfold L_X4_leftInKeeping_9 at hm
    refine cf_iload_n C dX4_leftInKeeping_9 rfl 3 rfl ?_
    refine cf_aload_n C dX4_leftInKeeping_10 rfl 0 rfl ?_
    refine gf_4_2 C inX4 ho q121 dX4_leftInKeeping_11 ?_
    refine cf_icmp_ge C (tgt := 50) dX4_leftInKeeping_14 (by decide) hm (fun hm => ?_) (fun hm => ?_)
    · refine cf_iload_n C dX4_leftInKeeping_50 rfl 2 rfl ?_
      exact hR _ _ _ _ dX4_leftInKeeping_51 hm
    · refine cf_aload_n C dX4_leftInKeeping_17 rfl 0 rfl ?_
      refine gf_4_7 C inX4 ho q134 dX4_leftInKeeping_18 ?_
      refine cf_iload_n C dX4_leftInKeeping_21 rfl 3 rfl ?_
      refine cf_iald C (okA_of 7 ho rfl (by decide) (by decide) (by decide)) dX4_leftInKeeping_22 hm (fun hm => ?_)
      refine cf_if_le C (tgt := 44) dX4_leftInKeeping_23 (by decide) hm (fun hm => ?_) (fun hm => ?_)
      · refine cf_iincN C (L1 := fun v3 => [(3, .int v3), (0, .ref (adr (vG E) o 0)), (1, .int x1), (2, .int x2)]) dX4_leftInKeeping_44 3 rfl rfl (by decide) (fun _ => rfl) hm (fun v3 hm => ?_)
        refine cf_goto C (tgt := 9) dX4_leftInKeeping_47 (by decide) ?_
        refine cf_sub C [1, 2, 3, 0] rfl ?_
        exact ih x1 x2 v3 _ hm
      · refine cf_aload_n C dX4_leftInKeeping_26 rfl 0 rfl ?_
        refine cf_iload_n C dX4_leftInKeeping_27 rfl 1 rfl ?_
        refine cf_iload_n C dX4_leftInKeeping_28 rfl 3 rfl ?_
        refine cf_callVi C [.int x1, .int x3] [] ho.1 (ocell_4 ho.2.1) rfl q371 q372 (c_X4_isKeptBy (vL E) (vG E) o x1 x3 _ _ ho hm) q490 q373 q68 md_X4_isKeptBy (Nat.le_of_ble_eq_true rfl) (Nat.le_of_ble_eq_true rfl) rfl rfl (Nat.le_of_ble_eq_true rfl) dX4_leftInKeeping_29 (fun v5 S4 hm => ?_)
        refine cf_if_eq C (tgt := 44) dX4_leftInKeeping_32 (by decide) hm (fun hm => ?_) (fun hm => ?_)
        · refine cf_iincN C (L1 := fun v6 => [(3, .int v6), (0, .ref (adr (vG E) o 0)), (1, .int x1), (2, .int x2)]) dX4_leftInKeeping_44 3 rfl rfl (by decide) (fun _ => rfl) hm (fun v6 hm => ?_)
          refine cf_goto C (tgt := 9) dX4_leftInKeeping_47 (by decide) ?_
          refine cf_sub C [1, 2, 3, 0] rfl ?_
          exact ih x1 x2 v6 _ hm
        · refine cf_iload_n C dX4_leftInKeeping_35 rfl 2 rfl ?_
          refine cf_aload_n C dX4_leftInKeeping_36 rfl 0 rfl ?_
          refine gf_4_7 C inX4 ho q134 dX4_leftInKeeping_37 ?_
          refine cf_iload_n C dX4_leftInKeeping_40 rfl 3 rfl ?_
          refine cf_iald C (okA_of 7 ho rfl (by decide) (by decide) (by decide)) dX4_leftInKeeping_41 hm (fun hm => ?_)
          refine cf_iadd C dX4_leftInKeeping_42 ?_
          refine cf_nmI hm (fun v7 hm => ?_)
          refine cf_istore_n C (L1 := [(2, .int v7), (0, .ref (adr (vG E) o 0)), (1, .int x1), (3, .int x3)]) dX4_leftInKeeping_43 rfl (by decide) rfl ?_
          refine cf_iincN C (L1 := fun v8 => [(3, .int v8), (2, .int v7), (0, .ref (adr (vG E) o 0)), (1, .int x1)]) dX4_leftInKeeping_44 3 rfl rfl (by decide) (fun _ => rfl) hm (fun v8 hm => ?_)
          refine cf_goto C (tgt := 9) dX4_leftInKeeping_47 (by decide) ?_
          refine cf_sub C [2, 3, 1, 0] rfl ?_
          exact ih x1 v7 v8 _ hm
def E_X4_leftInKeeping (o : Nat) (S : St) (Q : Int32 → St → Prop) : Prop := E_X4_sayer o S (fun v2 S1 => ∃ k, L_X4_leftInKeeping_9 o Q k v2 0 0 S1)
set_option maxRecDepth 20000 in
theorem c_X4_leftInKeeping (l : Launch) (G : GX) (o : Nat) (S : St) (Q : Int32 → St → Prop) (ho : okO enC o 4) (hm : E_X4_leftInKeeping o S Q) : CTi l yX4_leftInKeeping (Cond.code yX4_leftInKeeping cX4_leftInKeeping 4 (some .int) :: AW) { frames := 5, cells := 0, slots := 0, locals := 112 } G enC [.ref (adr G o 0)] S Q := by
  refine ct_start_i (by decide) enC_nd (Nat.le_of_ble_eq_true rfl) (fun E hG hl C hR => ?_)
  subst hG
  subst hl
  show CF E S 0 [(0, .ref (adr (vG E) o 0))] []
  unfold E_X4_leftInKeeping at hm
  refine cf_aload_n C dX4_leftInKeeping_0 rfl 0 rfl ?_
  refine cf_callVi C [] [] ho.1 (ocell_4 ho.2.1) rfl q366 q367 (c_X4_sayer (vL E) (vG E) o _ _ ho hm) q485 q368 q68 md_X4_sayer (Nat.le_of_ble_eq_true rfl) (Nat.le_of_ble_eq_true rfl) rfl rfl (Nat.le_of_ble_eq_true rfl) dX4_leftInKeeping_1 (fun v2 S1 hm => ?_)
  refine cf_istore_n C (L1 := [(1, .int v2), (0, .ref (adr (vG E) o 0))]) dX4_leftInKeeping_4 rfl (by decide) rfl ?_
  refine cf_iconst C dX4_leftInKeeping_5 (v := 0) rfl ?_
  refine cf_istore_n C (L1 := [(2, .int 0), (1, .int v2), (0, .ref (adr (vG E) o 0))]) dX4_leftInKeeping_6 rfl (by decide) rfl ?_
  refine cf_iconst C dX4_leftInKeeping_7 (v := 0) rfl ?_
  refine cf_istore_n C (L1 := [(3, .int 0), (2, .int 0), (1, .int v2), (0, .ref (adr (vG E) o 0))]) dX4_leftInKeeping_8 rfl (by decide) rfl ?_
  refine cf_sub C [3, 2, 1, 0] rfl ?_
  obtain ⟨k, hm⟩ := hm
  exact w_L_X4_leftInKeeping_9 C ho hR k v2 0 0 _ hm

def L_X6_brings_84    (Q : Int32 → St → Prop) : Nat → Int32 → Int32 → Int32 → Int32 → Int32 → St → Prop
  | 0 => fun _ _ _ _ _ _ => False
  | n + 1 => fun x2 x3 x4 x5 x6 S => if 9 < x6 then (if x2 = 0 then (Q x4 S) else (Q x5 S)) else (vp_in x3 9 ∧ (nmS (stR S 5 9 (upd (S.2 5 9) x3.toNatClampNeg x6)) (fun S14 => E_X4_leftInKeeping 5 S14 (fun v16 S15 => if v16 ≤ x5 then (nmI (x6 + 1) (fun v17 => L_X6_brings_84 Q n x2 x3 x4 x5 v17 S15)) else (nmI (x6 + 1) (fun v18 => L_X6_brings_84 Q n x2 x3 x6 v16 v18 S15))))))
set_option maxRecDepth 20000 in
theorem w_L_X6_brings_84 {E : EV} {Q : Int32 → St → Prop}   (C : CX E cX6_brings RX6 8 enC 6 135)   (hR : RTi E cX6_brings Q) : ∀ (n : Nat) (x2 : Int32) (x3 : Int32) (x4 : Int32) (x5 : Int32) (x6 : Int32) (S : St), L_X6_brings_84 Q n x2 x3 x4 x5 x6 S → CF E S 84 [(0, .ref (adr (vG E) 0 0)), (2, .int x2), (3, .int x3), (4, .int x4), (5, .int x5), (6, .int x6)] [] := by
  intro n
  induction n with
  | zero =>
    intro x2 x3 x4 x5 x6 S hm
    exact hm.elim
  | succ n ih =>
    intro x2 x3 x4 x5 x6 S hm
    unfold L_X6_brings_84 at hm
    refine cf_iload C dX6_brings_84 5 rfl ?_
    refine cf_bipush C dX6_brings_86 (v := 9) rfl ?_
    refine cf_icmp_gt C (tgt := 132) dX6_brings_88 (by decide) hm (fun hm => ?_) (fun hm => ?_)
    · refine cf_iload_n C dX6_brings_132 rfl 1 rfl ?_
      refine cf_if_ne C (tgt := 141) dX6_brings_133 (by decide) hm (fun hm => ?_) (fun hm => ?_)
      · refine cf_iload C dX6_brings_141 4 rfl ?_
        exact hR _ _ _ _ dX6_brings_143 hm
      · refine cf_iload C dX6_brings_136 3 rfl ?_
        refine cf_goto C (tgt := 143) dX6_brings_138 (by decide) ?_
        exact hR _ _ _ _ dX6_brings_143 hm
    · refine cf_aload_n C dX6_brings_91 rfl 0 rfl ?_
      refine gf_6_3 C inX6 okC_0 q279 dX6_brings_92 ?_
      refine gf_4_9 C inX4 okC_5 q140 dX6_brings_95 ?_
      refine cf_iload_n C dX6_brings_98 rfl 2 rfl ?_
      refine cf_iload C dX6_brings_99 5 rfl ?_
      refine cf_iast C (okA_of 9 okC_5 rfl (by decide) (by decide) (by decide)) dX6_brings_101 hm (fun hm => ?_)
      refine cf_nmS hm (fun S14 hm => ?_)
      refine cf_aload_n C dX6_brings_102 rfl 0 rfl ?_
      refine gf_6_3 C inX6 okC_0 q279 dX6_brings_103 ?_
      refine cf_callVi C [] [] okC_5.1 (ocell_4 okC_5.2.1) rfl q565 q566 (c_X4_leftInKeeping (vL E) (vG E) 5 _ _ okC_5 hm) q564 q567 q68 md_X4_leftInKeeping (Nat.le_of_ble_eq_true rfl) (Nat.le_of_ble_eq_true rfl) rfl rfl (Nat.le_of_ble_eq_true rfl) dX6_brings_106 (fun v16 S15 hm => ?_)
      refine cf_istore C (L1 := [(7, .int v16), (0, .ref (adr (vG E) 0 0)), (2, .int x2), (3, .int x3), (4, .int x4), (5, .int x5), (6, .int x6)]) dX6_brings_109 (by decide) rfl ?_
      refine cf_iload C dX6_brings_111 0 rfl ?_
      refine cf_iload C dX6_brings_113 5 rfl ?_
      refine cf_icmp_le C (tgt := 126) dX6_brings_115 (by decide) hm (fun hm => ?_) (fun hm => ?_)
      · refine cf_iincN C (L1 := fun v17 => [(6, .int v17), (7, .int v16), (0, .ref (adr (vG E) 0 0)), (2, .int x2), (3, .int x3), (4, .int x4), (5, .int x5)]) dX6_brings_126 6 rfl rfl (by decide) (fun _ => rfl) hm (fun v17 hm => ?_)
        refine cf_goto C (tgt := 84) dX6_brings_129 (by decide) ?_
        refine cf_sub C [2, 3, 4, 5, 6, 0] rfl ?_
        exact ih x2 x3 x4 x5 v17 _ hm
      · refine cf_iload C dX6_brings_118 0 rfl ?_
        refine cf_istore C (L1 := [(5, .int v16), (7, .int v16), (0, .ref (adr (vG E) 0 0)), (2, .int x2), (3, .int x3), (4, .int x4), (6, .int x6)]) dX6_brings_120 (by decide) rfl ?_
        refine cf_iload C dX6_brings_122 6 rfl ?_
        refine cf_istore C (L1 := [(4, .int x6), (5, .int v16), (7, .int v16), (0, .ref (adr (vG E) 0 0)), (2, .int x2), (3, .int x3), (6, .int x6)]) dX6_brings_124 (by decide) rfl ?_
        refine cf_iincN C (L1 := fun v18 => [(6, .int v18), (4, .int x6), (5, .int v16), (7, .int v16), (0, .ref (adr (vG E) 0 0)), (2, .int x2), (3, .int x3)]) dX6_brings_126 6 rfl rfl (by decide) (fun _ => rfl) hm (fun v18 hm => ?_)
        refine cf_goto C (tgt := 84) dX6_brings_129 (by decide) ?_
        refine cf_sub C [4, 5, 6, 1, 2, 0] rfl ?_
        exact ih x2 x3 x6 v16 v18 _ hm
def E_X6_brings (x1 : Int32) (x2 : Int32) (S : St) (Q : Int32 → St → Prop) : Prop := E_X6_within x1 1 99 S (fun v2 S1 => if v2 = 0 then (E_X6_wrong 1 S1 (fun v4 S3 => Q v4 S3)) else (E_X6_within x2 0 1 S1 (fun v6 S5 => if v6 = 0 then (E_X6_wrong 1 S5 (fun v22 S21 => Q v22 S21)) else (E_X4_left 3 S5 (fun v8 S7 => if v8 = 0 then (E_X6_wrong 3 S7 (fun v10 S9 => Q v10 S9)) else (if (S7.1 3 2) < 9 then (E_X4_takeFrom 5 3 S7 (fun S11 => E_X4_bring 5 0 x1 0 S11 (fun v13 S12 => ∃ k, L_X6_brings_84 Q k x2 v13 0 (-1) 0 S12))) else (E_X6_wrong 3 S7 (fun v20 S19 => Q v20 S19))))))))
set_option maxRecDepth 20000 in
theorem c_X6_brings (l : Launch) (G : GX) (x1 : Int32) (x2 : Int32) (S : St) (Q : Int32 → St → Prop)  (hm : E_X6_brings x1 x2 S Q) : CTi l yX6_brings (Cond.code yX6_brings cX6_brings 8 (some .int) :: AW) { frames := 6, cells := 0, slots := 0, locals := 135 } G enC [.ref (adr G 0 0), .int x1, .int x2] S Q := by
  refine ct_start_i (by decide) enC_nd (Nat.le_of_ble_eq_true rfl) (fun E hG hl C hR => ?_)
  subst hG
  subst hl
  show CF E S 0 [(0, .ref (adr (vG E) 0 0)), (1, .int x1), (2, .int x2)] []
  unfold E_X6_brings at hm
  refine cf_iload_n C dX6_brings_0 rfl 1 rfl ?_
  refine cf_iconst C dX6_brings_1 (v := 1) rfl ?_
  refine cf_bipush C dX6_brings_2 (v := 99) rfl ?_
  refine cf_callSi C [.int x1, .int 1, .int 99] [] q312 (c_X6_within (vL E) (vG E) x1 1 99 _ _  hm) q311 q313 q65 md_X6_within (Nat.le_of_ble_eq_true rfl) (Nat.le_of_ble_eq_true rfl) rfl rfl (Nat.le_of_ble_eq_true rfl) dX6_brings_4 (fun v2 S1 hm => ?_)
  refine cf_if_eq C (tgt := 19) dX6_brings_7 (by decide) hm (fun hm => ?_) (fun hm => ?_)
  · refine cf_aload_n C dX6_brings_19 rfl 0 rfl ?_
    refine cf_iconst C dX6_brings_20 (v := 1) rfl ?_
    refine cf_callVi C [.int 1] [] okC_0.1 (ocell_6 okC_0.2.1) rfl q316 q0 (c_X6_wrong (vL E) (vG E) 1 _ _  hm) q314 q317 q65 md_X6_wrong (Nat.le_of_ble_eq_true rfl) (Nat.le_of_ble_eq_true rfl) rfl rfl (Nat.le_of_ble_eq_true rfl) dX6_brings_21 (fun v4 S3 hm => ?_)
    exact hR _ _ _ _ dX6_brings_24 hm
  · refine cf_iload_n C dX6_brings_10 rfl 2 rfl ?_
    refine cf_iconst C dX6_brings_11 (v := 0) rfl ?_
    refine cf_iconst C dX6_brings_12 (v := 1) rfl ?_
    refine cf_callSi C [.int x2, .int 0, .int 1] [] q312 (c_X6_within (vL E) (vG E) x2 0 1 _ _  hm) q311 q313 q65 md_X6_within (Nat.le_of_ble_eq_true rfl) (Nat.le_of_ble_eq_true rfl) rfl rfl (Nat.le_of_ble_eq_true rfl) dX6_brings_13 (fun v6 S5 hm => ?_)
    refine cf_if_ne C (tgt := 25) dX6_brings_16 (by decide) hm (fun hm => ?_) (fun hm => ?_)
    · refine cf_aload_n C dX6_brings_25 rfl 0 rfl ?_
      refine gf_6_2 C inX6 okC_0 q278 dX6_brings_26 ?_
      refine cf_callVi C [] [] okC_3.1 (ocell_4 okC_3.2.1) rfl q508 q509 (c_X4_left (vL E) (vG E) 3 _ _ okC_3 hm) q507 q510 q68 md_X4_left (Nat.le_of_ble_eq_true rfl) (Nat.le_of_ble_eq_true rfl) rfl rfl (Nat.le_of_ble_eq_true rfl) dX6_brings_29 (fun v8 S7 hm => ?_)
      refine cf_if_eq C (tgt := 47) dX6_brings_32 (by decide) hm (fun hm => ?_) (fun hm => ?_)
      · refine cf_aload_n C dX6_brings_47 rfl 0 rfl ?_
        refine cf_iconst C dX6_brings_48 (v := 3) rfl ?_
        refine cf_callVi C [.int 3] [] okC_0.1 (ocell_6 okC_0.2.1) rfl q316 q0 (c_X6_wrong (vL E) (vG E) 3 _ _  hm) q314 q317 q65 md_X6_wrong (Nat.le_of_ble_eq_true rfl) (Nat.le_of_ble_eq_true rfl) rfl rfl (Nat.le_of_ble_eq_true rfl) dX6_brings_49 (fun v10 S9 hm => ?_)
        exact hR _ _ _ _ dX6_brings_52 hm
      · refine cf_aload_n C dX6_brings_35 rfl 0 rfl ?_
        refine gf_6_2 C inX6 okC_0 q278 dX6_brings_36 ?_
        refine gf_4_2 C inX4 okC_3 q122 dX6_brings_39 ?_
        refine cf_bipush C dX6_brings_42 (v := 9) rfl ?_
        refine cf_icmp_lt C (tgt := 53) dX6_brings_44 (by decide) hm (fun hm => ?_) (fun hm => ?_)
        · refine cf_aload_n C dX6_brings_53 rfl 0 rfl ?_
          refine gf_6_3 C inX6 okC_0 q279 dX6_brings_54 ?_
          refine cf_aload_n C dX6_brings_57 rfl 0 rfl ?_
          refine gf_6_2 C inX6 okC_0 q278 dX6_brings_58 ?_
          refine cf_callVv C [.ref (adr (vG E) 3 0)] [] okC_5.1 (ocell_4 okC_5.2.1) rfl q535 q536 (c_X4_takeFrom (vL E) (vG E) 5 3 _ _ okC_5 okC_3 hm) q534 q537 q68 md_X4_takeFrom (Nat.le_of_ble_eq_true rfl) (Nat.le_of_ble_eq_true rfl) rfl rfl (Nat.le_of_ble_eq_true rfl) dX6_brings_61 (fun S11 hm => ?_)
          refine cf_aload_n C dX6_brings_64 rfl 0 rfl ?_
          refine gf_6_3 C inX6 okC_0 q279 dX6_brings_65 ?_
          refine cf_iconst C dX6_brings_68 (v := 0) rfl ?_
          refine cf_iload_n C dX6_brings_69 rfl 1 rfl ?_
          refine cf_iconst C dX6_brings_70 (v := 0) rfl ?_
          refine cf_callVi C [.int 0, .int x1, .int 0] [] okC_5.1 (ocell_4 okC_5.2.1) rfl q320 q321 (c_X4_bring (vL E) (vG E) 5 0 x1 0 _ _ okC_5 hm) q319 q322 q68 md_X4_bring (Nat.le_of_ble_eq_true rfl) (Nat.le_of_ble_eq_true rfl) rfl rfl (Nat.le_of_ble_eq_true rfl) dX6_brings_71 (fun v13 S12 hm => ?_)
          refine cf_istore_n C (L1 := [(3, .int v13), (0, .ref (adr (vG E) 0 0)), (1, .int x1), (2, .int x2)]) dX6_brings_74 rfl (by decide) rfl ?_
          refine cf_iconst C dX6_brings_75 (v := 0) rfl ?_
          refine cf_istore C (L1 := [(4, .int 0), (3, .int v13), (0, .ref (adr (vG E) 0 0)), (1, .int x1), (2, .int x2)]) dX6_brings_76 (by decide) rfl ?_
          refine cf_iconst C dX6_brings_78 (v := (-1)) rfl ?_
          refine cf_istore C (L1 := [(5, .int ((-1))), (4, .int 0), (3, .int v13), (0, .ref (adr (vG E) 0 0)), (1, .int x1), (2, .int x2)]) dX6_brings_79 (by decide) rfl ?_
          refine cf_iconst C dX6_brings_81 (v := 0) rfl ?_
          refine cf_istore C (L1 := [(6, .int 0), (5, .int ((-1))), (4, .int 0), (3, .int v13), (0, .ref (adr (vG E) 0 0)), (1, .int x1), (2, .int x2)]) dX6_brings_82 (by decide) rfl ?_
          refine cf_sub C [4, 6, 3, 2, 1, 0] rfl ?_
          obtain ⟨k, hm⟩ := hm
          exact w_L_X6_brings_84 C hR k x2 v13 0 (-1) 0 _ hm
        · refine cf_aload_n C dX6_brings_47 rfl 0 rfl ?_
          refine cf_iconst C dX6_brings_48 (v := 3) rfl ?_
          refine cf_callVi C [.int 3] [] okC_0.1 (ocell_6 okC_0.2.1) rfl q316 q0 (c_X6_wrong (vL E) (vG E) 3 _ _  hm) q314 q317 q65 md_X6_wrong (Nat.le_of_ble_eq_true rfl) (Nat.le_of_ble_eq_true rfl) rfl rfl (Nat.le_of_ble_eq_true rfl) dX6_brings_49 (fun v20 S19 hm => ?_)
          exact hR _ _ _ _ dX6_brings_52 hm
    · refine cf_aload_n C dX6_brings_19 rfl 0 rfl ?_
      refine cf_iconst C dX6_brings_20 (v := 1) rfl ?_
      refine cf_callVi C [.int 1] [] okC_0.1 (ocell_6 okC_0.2.1) rfl q316 q0 (c_X6_wrong (vL E) (vG E) 1 _ _  hm) q314 q317 q65 md_X6_wrong (Nat.le_of_ble_eq_true rfl) (Nat.le_of_ble_eq_true rfl) rfl rfl (Nat.le_of_ble_eq_true rfl) dX6_brings_21 (fun v22 S21 hm => ?_)
      exact hR _ _ _ _ dX6_brings_24 hm

def L_X6_commonDivisor_2    (Q : Int32 → St → Prop) : Nat → Int32 → Int32 → Int32 → St → Prop
  | 0 => fun _ _ _ _ => False
  | n + 1 => fun x0 x1 x2 S => if 100 ≤ x2 then (if x0 = 0 then (Q 1 S) else (Q x0 S)) else (if x1 = 0 then (if x0 = 0 then (Q 1 S) else (Q x0 S)) else ((¬ x1 = 0) ∧ (nmI (x0 - x0 / x1 * x1) (fun v1 => nmI (x2 + 1) (fun v2 => L_X6_commonDivisor_2 Q n x1 v1 v2 S)))))
set_option maxRecDepth 20000 in
theorem w_L_X6_commonDivisor_2 {E : EV} {Q : Int32 → St → Prop}   (C : CX E cX6_commonDivisor RX6 4 enC 0 0)   (hR : RTi E cX6_commonDivisor Q) : ∀ (n : Nat) (x0 : Int32) (x1 : Int32) (x2 : Int32) (S : St), L_X6_commonDivisor_2 Q n x0 x1 x2 S → CF E S 2 [(0, .int x0), (1, .int x1), (2, .int x2)] [] := by
  intro n
  induction n with
  | zero =>
    intro x0 x1 x2 S hm
    exact hm.elim
  | succ n ih =>
    intro x0 x1 x2 S hm
    unfold L_X6_commonDivisor_2 at hm
    refine cf_iload_n C dX6_commonDivisor_2 rfl 2 rfl ?_
    refine cf_bipush C dX6_commonDivisor_3 (v := 100) rfl ?_
    refine cf_icmp_ge C (tgt := 26) dX6_commonDivisor_5 (by decide) hm (fun hm => ?_) (fun hm => ?_)
    · refine cf_iload_n C dX6_commonDivisor_26 rfl 0 rfl ?_
      refine cf_if_ne C (tgt := 34) dX6_commonDivisor_27 (by decide) hm (fun hm => ?_) (fun hm => ?_)
      · refine cf_iload_n C dX6_commonDivisor_34 rfl 0 rfl ?_
        exact hR _ _ _ _ dX6_commonDivisor_35 hm
      · refine cf_iconst C dX6_commonDivisor_30 (v := 1) rfl ?_
        refine cf_goto C (tgt := 35) dX6_commonDivisor_31 (by decide) ?_
        exact hR _ _ _ _ dX6_commonDivisor_35 hm
    · refine cf_iload_n C dX6_commonDivisor_8 rfl 1 rfl ?_
      refine cf_if_eq C (tgt := 26) dX6_commonDivisor_9 (by decide) hm (fun hm => ?_) (fun hm => ?_)
      · refine cf_iload_n C dX6_commonDivisor_26 rfl 0 rfl ?_
        refine cf_if_ne C (tgt := 34) dX6_commonDivisor_27 (by decide) hm (fun hm => ?_) (fun hm => ?_)
        · refine cf_iload_n C dX6_commonDivisor_34 rfl 0 rfl ?_
          exact hR _ _ _ _ dX6_commonDivisor_35 hm
        · refine cf_iconst C dX6_commonDivisor_30 (v := 1) rfl ?_
          refine cf_goto C (tgt := 35) dX6_commonDivisor_31 (by decide) ?_
          exact hR _ _ _ _ dX6_commonDivisor_35 hm
      · refine cf_iload_n C dX6_commonDivisor_12 rfl 0 rfl ?_
        refine cf_iload_n C dX6_commonDivisor_13 rfl 1 rfl ?_
        refine cf_irem C dX6_commonDivisor_14 hm (fun hm => ?_)
        refine cf_nmI hm (fun v1 hm => ?_)
        refine cf_istore_n C (L1 := [(3, .int v1), (0, .int x0), (1, .int x1), (2, .int x2)]) dX6_commonDivisor_15 rfl (by decide) rfl ?_
        refine cf_iload_n C dX6_commonDivisor_16 rfl 2 rfl ?_
        refine cf_istore_n C (L1 := [(0, .int x1), (3, .int v1), (1, .int x1), (2, .int x2)]) dX6_commonDivisor_17 rfl (by decide) rfl ?_
        refine cf_iload_n C dX6_commonDivisor_18 rfl 1 rfl ?_
        refine cf_istore_n C (L1 := [(1, .int v1), (0, .int x1), (3, .int v1), (2, .int x2)]) dX6_commonDivisor_19 rfl (by decide) rfl ?_
        refine cf_iincN C (L1 := fun v2 => [(2, .int v2), (1, .int v1), (0, .int x1), (3, .int v1)]) dX6_commonDivisor_20 3 rfl rfl (by decide) (fun _ => rfl) hm (fun v2 hm => ?_)
        refine cf_goto C (tgt := 2) dX6_commonDivisor_23 (by decide) ?_
        refine cf_sub C [2, 1, 0] rfl ?_
        exact ih x1 v1 v2 _ hm
def E_X6_commonDivisor (x0 : Int32) (x1 : Int32) (S : St) (Q : Int32 → St → Prop) : Prop := ∃ k, L_X6_commonDivisor_2 Q k x0 x1 0 S
set_option maxRecDepth 20000 in
theorem c_X6_commonDivisor (l : Launch) (G : GX) (x0 : Int32) (x1 : Int32) (S : St) (Q : Int32 → St → Prop)  (hm : E_X6_commonDivisor x0 x1 S Q) : CTi l yX6_commonDivisor (Cond.code yX6_commonDivisor cX6_commonDivisor 4 (some .int) :: AW) { frames := 0, cells := 0, slots := 0, locals := 0 } G enC [.int x0, .int x1] S Q := by
  refine ct_start_i (by decide) enC_nd (Nat.le_of_ble_eq_true rfl) (fun E hG hl C hR => ?_)
  subst hG
  subst hl
  show CF E S 0 [(0, .int x0), (1, .int x1)] []
  unfold E_X6_commonDivisor at hm
  refine cf_iconst C dX6_commonDivisor_0 (v := 0) rfl ?_
  refine cf_istore_n C (L1 := [(2, .int 0), (0, .int x0), (1, .int x1)]) dX6_commonDivisor_1 rfl (by decide) rfl ?_
  refine cf_sub C [1, 2, 0] rfl ?_
  obtain ⟨k, hm⟩ := hm
  exact w_L_X6_commonDivisor_2 C hR k x0 x1 0 _ hm

def E_X6_odds (x1 : Int32) (S : St) (Q : Int32 → St → Prop) : Prop := E_X6_within x1 0 1 S (fun v2 S1 => if v2 = 0 then (E_X6_wrong 1 S1 (fun v12 S11 => Q v12 S11)) else (E_X4_left 3 S1 (fun v4 S3 => if v4 = 0 then (E_X6_wrong 3 S3 (fun v10 S9 => Q v10 S9)) else (E_X4_leftInKeeping 3 S3 (fun v6 S5 => E_X6_commonDivisor v4 v6 S5 (fun v8 S7 => if x1 = 0 then ((¬ v8 = 0) ∧ (Q (v6 / v8) S7)) else ((¬ v8 = 0) ∧ (Q (v4 / v8) S7))))))))
set_option maxRecDepth 20000 in
theorem c_X6_odds (l : Launch) (G : GX) (x1 : Int32) (S : St) (Q : Int32 → St → Prop)  (hm : E_X6_odds x1 S Q) : CTi l yX6_odds (Cond.code yX6_odds cX6_odds 5 (some .int) :: AW) { frames := 6, cells := 0, slots := 0, locals := 135 } G enC [.ref (adr G 0 0), .int x1] S Q := by
  refine ct_start_i (by decide) enC_nd (Nat.le_of_ble_eq_true rfl) (fun E hG hl C hR => ?_)
  subst hG
  subst hl
  show CF E S 0 [(0, .ref (adr (vG E) 0 0)), (1, .int x1)] []
  unfold E_X6_odds at hm
  refine cf_iload_n C dX6_odds_0 rfl 1 rfl ?_
  refine cf_iconst C dX6_odds_1 (v := 0) rfl ?_
  refine cf_iconst C dX6_odds_2 (v := 1) rfl ?_
  refine cf_callSi C [.int x1, .int 0, .int 1] [] q312 (c_X6_within (vL E) (vG E) x1 0 1 _ _  hm) q311 q313 q65 md_X6_within (Nat.le_of_ble_eq_true rfl) (Nat.le_of_ble_eq_true rfl) rfl rfl (Nat.le_of_ble_eq_true rfl) dX6_odds_3 (fun v2 S1 hm => ?_)
  refine cf_if_ne C (tgt := 15) dX6_odds_6 (by decide) hm (fun hm => ?_) (fun hm => ?_)
  · refine cf_aload_n C dX6_odds_15 rfl 0 rfl ?_
    refine gf_6_2 C inX6 okC_0 q278 dX6_odds_16 ?_
    refine cf_callVi C [] [] okC_3.1 (ocell_4 okC_3.2.1) rfl q508 q509 (c_X4_left (vL E) (vG E) 3 _ _ okC_3 hm) q507 q510 q68 md_X4_left (Nat.le_of_ble_eq_true rfl) (Nat.le_of_ble_eq_true rfl) rfl rfl (Nat.le_of_ble_eq_true rfl) dX6_odds_19 (fun v4 S3 hm => ?_)
    refine cf_istore_n C (L1 := [(2, .int v4), (0, .ref (adr (vG E) 0 0)), (1, .int x1)]) dX6_odds_22 rfl (by decide) rfl ?_
    refine cf_iload_n C dX6_odds_23 rfl 0 rfl ?_
    refine cf_if_ne C (tgt := 33) dX6_odds_24 (by decide) hm (fun hm => ?_) (fun hm => ?_)
    · refine cf_aload_n C dX6_odds_33 rfl 1 rfl ?_
      refine gf_6_2 C inX6 okC_0 q278 dX6_odds_34 ?_
      refine cf_callVi C [] [] okC_3.1 (ocell_4 okC_3.2.1) rfl q565 q566 (c_X4_leftInKeeping (vL E) (vG E) 3 _ _ okC_3 hm) q564 q567 q68 md_X4_leftInKeeping (Nat.le_of_ble_eq_true rfl) (Nat.le_of_ble_eq_true rfl) rfl rfl (Nat.le_of_ble_eq_true rfl) dX6_odds_37 (fun v6 S5 hm => ?_)
      refine cf_istore_n C (L1 := [(3, .int v6), (2, .int v4), (0, .ref (adr (vG E) 0 0)), (1, .int x1)]) dX6_odds_40 rfl (by decide) rfl ?_
      refine cf_iload_n C dX6_odds_41 rfl 1 rfl ?_
      refine cf_iload_n C dX6_odds_42 rfl 0 rfl ?_
      refine cf_callSi C [.int v4, .int v6] [] q573 (c_X6_commonDivisor (vL E) (vG E) v4 v6 _ _  hm) q572 q574 q65 md_X6_commonDivisor (Nat.le_of_ble_eq_true rfl) (Nat.le_of_ble_eq_true rfl) rfl rfl (Nat.le_of_ble_eq_true rfl) dX6_odds_43 (fun v8 S7 hm => ?_)
      refine cf_istore C (L1 := [(4, .int v8), (3, .int v6), (2, .int v4), (0, .ref (adr (vG E) 0 0)), (1, .int x1)]) dX6_odds_46 (by decide) rfl ?_
      refine cf_iload_n C dX6_odds_48 rfl 4 rfl ?_
      refine cf_if_ne C (tgt := 56) dX6_odds_49 (by decide) hm (fun hm => ?_) (fun hm => ?_)
      · refine cf_iload_n C dX6_odds_56 rfl 2 rfl ?_
        refine cf_iload C dX6_odds_57 0 rfl ?_
        refine cf_idiv C dX6_odds_59 hm (fun hm => ?_)
        exact hR _ _ _ _ dX6_odds_60 hm
      · refine cf_iload_n C dX6_odds_52 rfl 1 rfl ?_
        refine cf_goto C (tgt := 57) dX6_odds_53 (by decide) ?_
        refine cf_iload C dX6_odds_57 0 rfl ?_
        refine cf_idiv C dX6_odds_59 hm (fun hm => ?_)
        exact hR _ _ _ _ dX6_odds_60 hm
    · refine cf_aload_n C dX6_odds_27 rfl 1 rfl ?_
      refine cf_iconst C dX6_odds_28 (v := 3) rfl ?_
      refine cf_callVi C [.int 3] [] okC_0.1 (ocell_6 okC_0.2.1) rfl q316 q0 (c_X6_wrong (vL E) (vG E) 3 _ _  hm) q314 q317 q65 md_X6_wrong (Nat.le_of_ble_eq_true rfl) (Nat.le_of_ble_eq_true rfl) rfl rfl (Nat.le_of_ble_eq_true rfl) dX6_odds_29 (fun v10 S9 hm => ?_)
      exact hR _ _ _ _ dX6_odds_32 hm
  · refine cf_aload_n C dX6_odds_9 rfl 0 rfl ?_
    refine cf_iconst C dX6_odds_10 (v := 1) rfl ?_
    refine cf_callVi C [.int 1] [] okC_0.1 (ocell_6 okC_0.2.1) rfl q316 q0 (c_X6_wrong (vL E) (vG E) 1 _ _  hm) q314 q317 q65 md_X6_wrong (Nat.le_of_ble_eq_true rfl) (Nat.le_of_ble_eq_true rfl) rfl rfl (Nat.le_of_ble_eq_true rfl) dX6_odds_11 (fun v12 S11 hm => ?_)
    exact hR _ _ _ _ dX6_odds_14 hm

def E_X6_isSheet (x0 : Int32) (S : St) (Q : Int32 → St → Prop) : Prop := E_X6_within x0 0 3 S (fun v2 S1 => (v2 = 0 ∨ v2 = 1) ∧ (Q v2 S1))
set_option maxRecDepth 20000 in
theorem c_X6_isSheet (l : Launch) (G : GX) (x0 : Int32) (S : St) (Q : Int32 → St → Prop)  (hm : E_X6_isSheet x0 S Q) : CTi l yX6_isSheet (Cond.code yX6_isSheet cX6_isSheet 1 (some .boolean) :: AW) { frames := 1, cells := 0, slots := 0, locals := 22 } G enC [.int x0] S Q := by
  refine ct_start_z (by decide) enC_nd (Nat.le_of_ble_eq_true rfl) (fun E hG hl C hR => ?_)
  subst hG
  subst hl
  show CF E S 0 [(0, .int x0)] []
  unfold E_X6_isSheet at hm
  refine cf_iload_n C dX6_isSheet_0 rfl 0 rfl ?_
  refine cf_iconst C dX6_isSheet_1 (v := 0) rfl ?_
  refine cf_iconst C dX6_isSheet_2 (v := 3) rfl ?_
  refine cf_callSi C [.int x0, .int 0, .int 3] [] q312 (c_X6_within (vL E) (vG E) x0 0 3 _ _  hm) q311 q313 q65 md_X6_within (Nat.le_of_ble_eq_true rfl) (Nat.le_of_ble_eq_true rfl) rfl rfl (Nat.le_of_ble_eq_true rfl) dX6_isSheet_3 (fun v2 S1 hm => ?_)
  exact hR _ _ _ _ dX6_isSheet_6 hm.1 hm.2

def E_X3_isMissing (o : Nat) (S : St) (Q : Int32 → St → Prop) : Prop := if (S.1 o 0) = 0 then (Q 1 S) else (Q 0 S)
set_option maxRecDepth 20000 in
theorem c_X3_isMissing (l : Launch) (G : GX) (o : Nat) (S : St) (Q : Int32 → St → Prop) (ho : okO enC o 3) (hm : E_X3_isMissing o S Q) : CTi l yX3_isMissing (Cond.code yX3_isMissing cX3_isMissing 1 (some .boolean) :: AW) { frames := 0, cells := 0, slots := 0, locals := 0 } G enC [.ref (adr G o 0)] S Q := by
  refine ct_start_z (by decide) enC_nd (Nat.le_of_ble_eq_true rfl) (fun E hG hl C hR => ?_)
  subst hG
  subst hl
  show CF E S 0 [(0, .ref (adr (vG E) o 0))] []
  unfold E_X3_isMissing at hm
  refine cf_aload_n C dX3_isMissing_0 rfl 0 rfl ?_
  refine gf_3_0 C inX3 ho q263 dX3_isMissing_1 ?_
  refine cf_if_ne C (tgt := 11) dX3_isMissing_4 (by decide) hm (fun hm => ?_) (fun hm => ?_)
  · refine cf_iconst C dX3_isMissing_11 (v := 0) rfl ?_
    exact hR _ _ _ _ dX3_isMissing_12 (Or.inl rfl) hm
  · refine cf_iconst C dX3_isMissing_7 (v := 1) rfl ?_
    refine cf_goto C (tgt := 12) dX3_isMissing_8 (by decide) ?_
    exact hR _ _ _ _ dX3_isMissing_12 (Or.inr rfl) hm
