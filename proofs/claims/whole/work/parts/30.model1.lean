def E_X7_in (x0 : Int32) (x1 : Int32) (x2 : Int32) (S : St) (Q : Int32 → St → Prop) : Prop := if x0 < x1 then (Q 0 S) else (if x2 < x0 then (Q 0 S) else (Q 1 S))
set_option maxRecDepth 20000 in
theorem c_X7_in (l : Launch) (G : GX) (x0 : Int32) (x1 : Int32) (x2 : Int32) (S : St) (Q : Int32 → St → Prop)  (hm : E_X7_in x0 x1 x2 S Q) : CTi l yX7_in (Cond.code yX7_in cX7_in 3 (some .boolean) :: AW) { frames := 0, cells := 0, slots := 0, locals := 0 } G enM [.int x0, .int x1, .int x2] S Q := by
  refine ct_start_z (by decide) enM_nd (Nat.le_of_ble_eq_true rfl) (fun E hG hl C hR => ?_)
  subst hG
  subst hl
  show CF E S 0 [(0, .int x0), (1, .int x1), (2, .int x2)] []
  unfold E_X7_in at hm
  refine cf_iload_n C dX7_in_0 rfl 0 rfl ?_
  refine cf_iload_n C dX7_in_1 rfl 1 rfl ?_
  refine cf_icmp_lt C (tgt := 14) dX7_in_2 (by decide) hm (fun hm => ?_) (fun hm => ?_)
  · refine cf_iconst C dX7_in_14 (v := 0) rfl ?_
    exact hR _ _ _ _ dX7_in_15 (Or.inl rfl) hm
  · refine cf_iload_n C dX7_in_5 rfl 0 rfl ?_
    refine cf_iload_n C dX7_in_6 rfl 2 rfl ?_
    refine cf_icmp_gt C (tgt := 14) dX7_in_7 (by decide) hm (fun hm => ?_) (fun hm => ?_)
    · refine cf_iconst C dX7_in_14 (v := 0) rfl ?_
      exact hR _ _ _ _ dX7_in_15 (Or.inl rfl) hm
    · refine cf_iconst C dX7_in_10 (v := 1) rfl ?_
      refine cf_goto C (tgt := 15) dX7_in_11 (by decide) ?_
      exact hR _ _ _ _ dX7_in_15 (Or.inr rfl) hm

def E_X7_error (x1 : Int32) (S : St) (Q : Int32 → St → Prop) : Prop := vp_in x1 7 ∧ (vp_in x1 7 ∧ (nmS (stR S 17 4 (upd (S.2 17 4) x1.toNatClampNeg ((S.2 17 4 x1.toNatClampNeg) + 1))) (fun S1 => Q ((-1000000000) - x1) S1)))
set_option maxRecDepth 20000 in
theorem c_X7_error (l : Launch) (G : GX) (x1 : Int32) (S : St) (Q : Int32 → St → Prop)  (hm : E_X7_error x1 S Q) : CTi l yX7_error (Cond.code yX7_error cX7_error 2 (some .int) :: AW) { frames := 0, cells := 0, slots := 0, locals := 0 } G enM [.ref (adr G 17 0), .int x1] S Q := by
  refine ct_start_i (by decide) enM_nd (Nat.le_of_ble_eq_true rfl) (fun E hG hl C hR => ?_)
  subst hG
  subst hl
  show CF E S 0 [(0, .ref (adr (vG E) 17 0)), (1, .int x1)] []
  unfold E_X7_error at hm
  refine cf_aload_n C dX7_error_0 rfl 0 rfl ?_
  refine gf_7_4 C inX7 okM_17 q698 dX7_error_1 ?_
  refine cf_iload_n C dX7_error_4 rfl 1 rfl ?_
  refine cf_dup2 C dX7_error_5 rfl rfl ?_
  refine cf_iald C (okA_of 4 okM_17 rfl (by decide) (by decide) (by decide)) dX7_error_6 hm (fun hm => ?_)
  refine cf_iconst C dX7_error_7 (v := 1) rfl ?_
  refine cf_iadd C dX7_error_8 ?_
  refine cf_iast C (okA_of 4 okM_17 rfl (by decide) (by decide) (by decide)) dX7_error_9 hm (fun hm => ?_)
  refine cf_nmS hm (fun S1 hm => ?_)
  refine cf_ldc C dX7_error_10 q773 ?_
  refine cf_iload_n C dX7_error_12 rfl 1 rfl ?_
  refine cf_isub C dX7_error_13 ?_
  exact hR _ _ _ _ dX7_error_14 hm

def L_X7_feed_38    (Q : Int32 → St → Prop) : Nat → Int64 → Int32 → Int32 → St → Prop
  | 0 => fun _ _ _ _ => False
  | n + 1 => fun x1 x3 x4 S => if x3 ≤ x4 then (vp_in 3 387 ∧ (Q (S.2 17 0 (3 : Int32).toNatClampNeg) S)) else (vp_in 3 387 ∧ (vp_in (303 + (S.2 17 0 (3 : Int32).toNatClampNeg)) 387 ∧ (nmS (stR S 17 0 (upd (S.2 17 0) (303 + (S.2 17 0 (3 : Int32).toNatClampNeg)).toNatClampNeg (((x1 >>> ((8 * x4).toInt64 &&& 63)) &&& 255).toInt32))) (fun S3 => vp_in 3 387 ∧ (vp_in 3 387 ∧ (nmS (stR S3 17 0 (upd (S3.2 17 0) (3 : Int32).toNatClampNeg ((S3.2 17 0 (3 : Int32).toNatClampNeg) + 1))) (fun S4 => nmI (x4 + 1) (fun v5 => L_X7_feed_38 Q n x1 x3 v5 S4))))))))
set_option maxRecDepth 20000 in
theorem w_L_X7_feed_38 {E : EV} {Q : Int32 → St → Prop}   (C : CX E cX7_feed RX7 5 enM 1 22)   (hR : RTi E cX7_feed Q) : ∀ (n : Nat) (x1 : Int64) (x3 : Int32) (x4 : Int32) (S : St), L_X7_feed_38 Q n x1 x3 x4 S → CF E S 38 [(0, .ref (adr (vG E) 17 0)), (1, .long (x1)), (3, .int x3), (4, .int x4)] [] := by
  intro n
  induction n with
  | zero =>
    intro x1 x3 x4 S hm
    exact hm.elim
  | succ n ih =>
    intro x1 x3 x4 S hm
    unfold L_X7_feed_38 at hm
    refine cf_iload C dX7_feed_38 3 rfl ?_
    refine cf_iload_n C dX7_feed_40 rfl 2 rfl ?_
    refine cf_icmp_ge C (tgt := 87) dX7_feed_41 (by decide) hm (fun hm => ?_) (fun hm => ?_)
    · refine cf_aload_n C dX7_feed_87 rfl 0 rfl ?_
      refine gf_7_0 C inX7 okM_17 q694 dX7_feed_88 ?_
      refine cf_iconst C dX7_feed_91 (v := 3) rfl ?_
      refine cf_iald C (okA_of 0 okM_17 rfl (by decide) (by decide) (by decide)) dX7_feed_92 hm (fun hm => ?_)
      exact hR _ _ _ _ dX7_feed_93 hm
    · refine cf_aload_n C dX7_feed_44 rfl 0 rfl ?_
      refine gf_7_0 C inX7 okM_17 q694 dX7_feed_45 ?_
      refine cf_sipush C dX7_feed_48 (v := 303) rfl ?_
      refine cf_aload_n C dX7_feed_51 rfl 0 rfl ?_
      refine gf_7_0 C inX7 okM_17 q694 dX7_feed_52 ?_
      refine cf_iconst C dX7_feed_55 (v := 3) rfl ?_
      refine cf_iald C (okA_of 0 okM_17 rfl (by decide) (by decide) (by decide)) dX7_feed_56 hm (fun hm => ?_)
      refine cf_iadd C dX7_feed_57 ?_
      refine cf_lload_n C dX7_feed_58 rfl 1 rfl ?_
      refine cf_bipush C dX7_feed_59 (v := 8) rfl ?_
      refine cf_iload C dX7_feed_61 3 rfl ?_
      refine cf_imul C dX7_feed_63 ?_
      refine cf_lshr C dX7_feed_64 ?_
      refine cf_ldc2 C dX7_feed_65 q774 ?_
      refine cf_land C dX7_feed_68 ?_
      refine cf_l2i C dX7_feed_69 ?_
      refine cf_iast C (okA_of 0 okM_17 rfl (by decide) (by decide) (by decide)) dX7_feed_70 hm (fun hm => ?_)
      refine cf_nmS hm (fun S3 hm => ?_)
      refine cf_aload_n C dX7_feed_71 rfl 0 rfl ?_
      refine gf_7_0 C inX7 okM_17 q694 dX7_feed_72 ?_
      refine cf_iconst C dX7_feed_75 (v := 3) rfl ?_
      refine cf_dup2 C dX7_feed_76 rfl rfl ?_
      refine cf_iald C (okA_of 0 okM_17 rfl (by decide) (by decide) (by decide)) dX7_feed_77 hm (fun hm => ?_)
      refine cf_iconst C dX7_feed_78 (v := 1) rfl ?_
      refine cf_iadd C dX7_feed_79 ?_
      refine cf_iast C (okA_of 0 okM_17 rfl (by decide) (by decide) (by decide)) dX7_feed_80 hm (fun hm => ?_)
      refine cf_nmS hm (fun S4 hm => ?_)
      refine cf_iincN C (L1 := fun v5 => [(4, .int v5), (0, .ref (adr (vG E) 17 0)), (1, .long (x1)), (3, .int x3)]) dX7_feed_81 3 rfl rfl (by decide) (fun _ => rfl) hm (fun v5 hm => ?_)
      refine cf_goto C (tgt := 38) dX7_feed_84 (by decide) ?_
      refine cf_sub C [1, 2, 3, 0] rfl ?_
      exact ih x1 x3 v5 _ hm
def E_X7_feed (x1 : Int64) (x3 : Int32) (S : St) (Q : Int32 → St → Prop) : Prop := E_X7_in x3 1 8 S (fun v2 S1 => if v2 = 0 then (E_X7_error 1 S1 (fun v9 S8 => Q v9 S8)) else (vp_in 3 387 ∧ (if ((S1.2 17 0 (3 : Int32).toNatClampNeg) + x3) ≤ 60 then (∃ k, L_X7_feed_38 Q k x1 x3 0 S1) else (E_X7_error 4 S1 (fun v7 S6 => Q v7 S6)))))
set_option maxRecDepth 20000 in
theorem c_X7_feed (l : Launch) (G : GX) (x1 : Int64) (x3 : Int32) (S : St) (Q : Int32 → St → Prop)  (hm : E_X7_feed x1 x3 S Q) : CTi l yX7_feed (Cond.code yX7_feed cX7_feed 5 (some .int) :: AW) { frames := 1, cells := 0, slots := 0, locals := 22 } G enM [.ref (adr G 17 0), .long (x1), .int x3] S Q := by
  refine ct_start_i (by decide) enM_nd (Nat.le_of_ble_eq_true rfl) (fun E hG hl C hR => ?_)
  subst hG
  subst hl
  show CF E S 0 [(0, .ref (adr (vG E) 17 0)), (1, .long (x1)), (3, .int x3)] []
  unfold E_X7_feed at hm
  refine cf_iload_n C dX7_feed_0 rfl 2 rfl ?_
  refine cf_iconst C dX7_feed_1 (v := 1) rfl ?_
  refine cf_bipush C dX7_feed_2 (v := 8) rfl ?_
  refine cf_callSi C [.int x3, .int 1, .int 8] [] q767 (c_X7_in (vL E) (vG E) x3 1 8 _ _  hm) q766 q768 q72 md_X7_in (Nat.le_of_ble_eq_true rfl) (Nat.le_of_ble_eq_true rfl) rfl rfl (Nat.le_of_ble_eq_true rfl) dX7_feed_4 (fun v2 S1 hm => ?_)
  refine cf_if_ne C (tgt := 16) dX7_feed_7 (by decide) hm (fun hm => ?_) (fun hm => ?_)
  · refine cf_aload_n C dX7_feed_16 rfl 0 rfl ?_
    refine gf_7_0 C inX7 okM_17 q694 dX7_feed_17 ?_
    refine cf_iconst C dX7_feed_20 (v := 3) rfl ?_
    refine cf_iald C (okA_of 0 okM_17 rfl (by decide) (by decide) (by decide)) dX7_feed_21 hm (fun hm => ?_)
    refine cf_iload_n C dX7_feed_22 rfl 2 rfl ?_
    refine cf_iadd C dX7_feed_23 ?_
    refine cf_bipush C dX7_feed_24 (v := 60) rfl ?_
    refine cf_icmp_le C (tgt := 35) dX7_feed_26 (by decide) hm (fun hm => ?_) (fun hm => ?_)
    · refine cf_iconst C dX7_feed_35 (v := 0) rfl ?_
      refine cf_istore C (L1 := [(4, .int 0), (0, .ref (adr (vG E) 17 0)), (1, .long (x1)), (3, .int x3)]) dX7_feed_36 (by decide) rfl ?_
      refine cf_sub C [1, 2, 3, 0] rfl ?_
      obtain ⟨k, hm⟩ := hm
      exact w_L_X7_feed_38 C hR k x1 x3 0 _ hm
    · refine cf_aload_n C dX7_feed_29 rfl 0 rfl ?_
      refine cf_iconst C dX7_feed_30 (v := 4) rfl ?_
      refine cf_callVi C [.int 4] [] okM_17.1 (ocell_7 okM_17.2.1) rfl q771 q19 (c_X7_error (vL E) (vG E) 4 _ _  hm) q769 q772 q72 md_X7_error (Nat.le_of_ble_eq_true rfl) (Nat.le_of_ble_eq_true rfl) rfl rfl (Nat.le_of_ble_eq_true rfl) dX7_feed_31 (fun v7 S6 hm => ?_)
      exact hR _ _ _ _ dX7_feed_34 hm
  · refine cf_aload_n C dX7_feed_10 rfl 0 rfl ?_
    refine cf_iconst C dX7_feed_11 (v := 1) rfl ?_
    refine cf_callVi C [.int 1] [] okM_17.1 (ocell_7 okM_17.2.1) rfl q771 q19 (c_X7_error (vL E) (vG E) 1 _ _  hm) q769 q772 q72 md_X7_error (Nat.le_of_ble_eq_true rfl) (Nat.le_of_ble_eq_true rfl) rfl rfl (Nat.le_of_ble_eq_true rfl) dX7_feed_12 (fun v9 S8 hm => ?_)
    exact hR _ _ _ _ dX7_feed_15 hm

def E_X7_look  (S : St) (Q : Int32 → St → Prop) : Prop := vp_in 3 387 ∧ (if (S.2 17 0 (3 : Int32).toNatClampNeg) ≤ (S.1 17 5) then (Q (-1) S) else (vp_in (303 + (S.1 17 5)) 387 ∧ (Q (S.2 17 0 (303 + (S.1 17 5)).toNatClampNeg) S)))
set_option maxRecDepth 20000 in
theorem c_X7_look (l : Launch) (G : GX)  (S : St) (Q : Int32 → St → Prop)  (hm : E_X7_look  S Q) : CTi l yX7_look (Cond.code yX7_look cX7_look 1 (some .int) :: AW) { frames := 0, cells := 0, slots := 0, locals := 0 } G enM [.ref (adr G 17 0)] S Q := by
  refine ct_start_i (by decide) enM_nd (Nat.le_of_ble_eq_true rfl) (fun E hG hl C hR => ?_)
  subst hG
  subst hl
  show CF E S 0 [(0, .ref (adr (vG E) 17 0))] []
  unfold E_X7_look at hm
  refine cf_aload_n C dX7_look_0 rfl 0 rfl ?_
  refine gf_7_5 C inX7 okM_17 q699 dX7_look_1 ?_
  refine cf_aload_n C dX7_look_4 rfl 0 rfl ?_
  refine gf_7_0 C inX7 okM_17 q694 dX7_look_5 ?_
  refine cf_iconst C dX7_look_8 (v := 3) rfl ?_
  refine cf_iald C (okA_of 0 okM_17 rfl (by decide) (by decide) (by decide)) dX7_look_9 hm (fun hm => ?_)
  refine cf_icmp_ge C (tgt := 29) dX7_look_10 (by decide) hm (fun hm => ?_) (fun hm => ?_)
  · refine cf_iconst C dX7_look_29 (v := (-1)) rfl ?_
    exact hR _ _ _ _ dX7_look_30 hm
  · refine cf_aload_n C dX7_look_13 rfl 0 rfl ?_
    refine gf_7_0 C inX7 okM_17 q694 dX7_look_14 ?_
    refine cf_sipush C dX7_look_17 (v := 303) rfl ?_
    refine cf_aload_n C dX7_look_20 rfl 0 rfl ?_
    refine gf_7_5 C inX7 okM_17 q699 dX7_look_21 ?_
    refine cf_iadd C dX7_look_24 ?_
    refine cf_iald C (okA_of 0 okM_17 rfl (by decide) (by decide) (by decide)) dX7_look_25 hm (fun hm => ?_)
    refine cf_goto C (tgt := 30) dX7_look_26 (by decide) ?_
    exact hR _ _ _ _ dX7_look_30 hm

def E_X7_step1 (x1 : Int32) (x2 : Int32) (S : St) (Q : St → Prop) : Prop := vp_in (2 * (S.1 17 7)) 124 ∧ (nmS (stR S 17 9 (upd (S.2 17 9) (2 * (S.1 17 7)).toNatClampNeg x1)) (fun S1 => vp_in ((2 * (S1.1 17 7)) + 1) 124 ∧ (nmS (stR S1 17 9 (upd (S1.2 17 9) ((2 * (S1.1 17 7)) + 1).toNatClampNeg x2)) (fun S2 => nmS (stI S2 17 7 ((S2.1 17 7) + 1)) (fun S3 => Q S3)))))
set_option maxRecDepth 20000 in
theorem c_X7_step1 (l : Launch) (G : GX) (x1 : Int32) (x2 : Int32) (S : St) (Q : St → Prop)  (hm : E_X7_step1 x1 x2 S Q) : CTv l yX7_step1 (Cond.code yX7_step1 cX7_step1 3 none :: AW) { frames := 0, cells := 0, slots := 0, locals := 0 } G enM [.ref (adr G 17 0), .int x1, .int x2] S Q := by
  refine ct_start_v (by decide) enM_nd (Nat.le_of_ble_eq_true rfl) (fun E hG hl C hR => ?_)
  subst hG
  subst hl
  show CF E S 0 [(0, .ref (adr (vG E) 17 0)), (1, .int x1), (2, .int x2)] []
  unfold E_X7_step1 at hm
  refine cf_aload_n C dX7_step1_0 rfl 0 rfl ?_
  refine gf_7_9 C inX7 okM_17 q703 dX7_step1_1 ?_
  refine cf_iconst C dX7_step1_4 (v := 2) rfl ?_
  refine cf_aload_n C dX7_step1_5 rfl 0 rfl ?_
  refine gf_7_7 C inX7 okM_17 q701 dX7_step1_6 ?_
  refine cf_imul C dX7_step1_9 ?_
  refine cf_iload_n C dX7_step1_10 rfl 1 rfl ?_
  refine cf_iast C (okA_of 9 okM_17 rfl (by decide) (by decide) (by decide)) dX7_step1_11 hm (fun hm => ?_)
  refine cf_nmS hm (fun S1 hm => ?_)
  refine cf_aload_n C dX7_step1_12 rfl 0 rfl ?_
  refine gf_7_9 C inX7 okM_17 q703 dX7_step1_13 ?_
  refine cf_iconst C dX7_step1_16 (v := 2) rfl ?_
  refine cf_aload_n C dX7_step1_17 rfl 0 rfl ?_
  refine gf_7_7 C inX7 okM_17 q701 dX7_step1_18 ?_
  refine cf_imul C dX7_step1_21 ?_
  refine cf_iconst C dX7_step1_22 (v := 1) rfl ?_
  refine cf_iadd C dX7_step1_23 ?_
  refine cf_iload_n C dX7_step1_24 rfl 2 rfl ?_
  refine cf_iast C (okA_of 9 okM_17 rfl (by decide) (by decide) (by decide)) dX7_step1_25 hm (fun hm => ?_)
  refine cf_nmS hm (fun S2 hm => ?_)
  refine cf_aload_n C dX7_step1_26 rfl 0 rfl ?_
  refine cf_dup C dX7_step1_27 rfl ?_
  refine gf_7_7 C inX7 okM_17 q701 dX7_step1_28 ?_
  refine cf_iconst C dX7_step1_31 (v := 1) rfl ?_
  refine cf_iadd C dX7_step1_32 ?_
  refine pf_7_7 C inX7 okM_17 q701 dX7_step1_33 ?_
  refine cf_nmS hm (fun S3 hm => ?_)
  exact hR _ _ _ dX7_step1_36 hm

def J_X7_isName_15    (Q : Int32 → St → Prop) (x1 : Int32) (t0 : Int32) (t1 : Int32) (S : St) : Prop := if t1 = t0 then (Q 1 S) else (if (S.1 17 8) = 0 then (if x1 = 97 then (Q 1 S) else (if x1 = 115 then (Q 1 S) else (Q 0 S))) else (if x1 = 114 then (Q 1 S) else (if x1 = 100 then (Q 1 S) else (Q 0 S))))
set_option maxRecDepth 20000 in
theorem w_J_X7_isName_15 {E : EV} {Q : Int32 → St → Prop}   (C : CX E cX7_isName RX7 2 enM 0 0)   (hR : RTz E cX7_isName Q) : ∀ (x1 : Int32) (t0 : Int32) (t1 : Int32) (S : St), J_X7_isName_15 Q x1 t0 t1 S → CF E S 15 [(0, .ref (adr (vG E) 17 0)), (1, .int x1)] [.int t0, .int t1] := by
  intro x1 t0 t1 S hm
  unfold J_X7_isName_15 at hm
  refine cf_icmp_ne C (tgt := 20) dX7_isName_15 (by decide) hm (fun hm => ?_) (fun hm => ?_)
  · refine cf_aload_n C dX7_isName_20 rfl 0 rfl ?_
    refine gf_7_8 C inX7 okM_17 q702 dX7_isName_21 ?_
    refine cf_if_ne C (tgt := 47) dX7_isName_24 (by decide) hm (fun hm => ?_) (fun hm => ?_)
    · refine cf_iload_n C dX7_isName_47 rfl 1 rfl ?_
      refine cf_bipush C dX7_isName_48 (v := 114) rfl ?_
      refine cf_icmp_eq C (tgt := 59) dX7_isName_50 (by decide) hm (fun hm => ?_) (fun hm => ?_)
      · refine cf_iconst C dX7_isName_59 (v := 1) rfl ?_
        refine cf_goto C (tgt := 64) dX7_isName_60 (by decide) ?_
        exact hR _ _ _ _ dX7_isName_64 (Or.inr rfl) hm
      · refine cf_iload_n C dX7_isName_53 rfl 1 rfl ?_
        refine cf_bipush C dX7_isName_54 (v := 100) rfl ?_
        refine cf_icmp_ne C (tgt := 63) dX7_isName_56 (by decide) hm (fun hm => ?_) (fun hm => ?_)
        · refine cf_iconst C dX7_isName_63 (v := 0) rfl ?_
          exact hR _ _ _ _ dX7_isName_64 (Or.inl rfl) hm
        · refine cf_iconst C dX7_isName_59 (v := 1) rfl ?_
          refine cf_goto C (tgt := 64) dX7_isName_60 (by decide) ?_
          exact hR _ _ _ _ dX7_isName_64 (Or.inr rfl) hm
    · refine cf_iload_n C dX7_isName_27 rfl 1 rfl ?_
      refine cf_bipush C dX7_isName_28 (v := 97) rfl ?_
      refine cf_icmp_eq C (tgt := 39) dX7_isName_30 (by decide) hm (fun hm => ?_) (fun hm => ?_)
      · refine cf_iconst C dX7_isName_39 (v := 1) rfl ?_
        refine cf_goto C (tgt := 64) dX7_isName_40 (by decide) ?_
        exact hR _ _ _ _ dX7_isName_64 (Or.inr rfl) hm
      · refine cf_iload_n C dX7_isName_33 rfl 1 rfl ?_
        refine cf_bipush C dX7_isName_34 (v := 115) rfl ?_
        refine cf_icmp_ne C (tgt := 43) dX7_isName_36 (by decide) hm (fun hm => ?_) (fun hm => ?_)
        · refine cf_iconst C dX7_isName_43 (v := 0) rfl ?_
          refine cf_goto C (tgt := 64) dX7_isName_44 (by decide) ?_
          exact hR _ _ _ _ dX7_isName_64 (Or.inl rfl) hm
        · refine cf_iconst C dX7_isName_39 (v := 1) rfl ?_
          refine cf_goto C (tgt := 64) dX7_isName_40 (by decide) ?_
          exact hR _ _ _ _ dX7_isName_64 (Or.inr rfl) hm
  · refine cf_iconst C dX7_isName_18 (v := 1) rfl ?_
    exact hR _ _ _ _ dX7_isName_19 (Or.inr rfl) hm
def E_X7_isName (x1 : Int32) (S : St) (Q : Int32 → St → Prop) : Prop := if (S.1 17 8) = 0 then (J_X7_isName_15 Q x1 99 x1 S) else (J_X7_isName_15 Q x1 102 x1 S)
set_option maxRecDepth 20000 in
theorem c_X7_isName (l : Launch) (G : GX) (x1 : Int32) (S : St) (Q : Int32 → St → Prop)  (hm : E_X7_isName x1 S Q) : CTi l yX7_isName (Cond.code yX7_isName cX7_isName 2 (some .boolean) :: AW) { frames := 0, cells := 0, slots := 0, locals := 0 } G enM [.ref (adr G 17 0), .int x1] S Q := by
  refine ct_start_z (by decide) enM_nd (Nat.le_of_ble_eq_true rfl) (fun E hG hl C hR => ?_)
  subst hG
  subst hl
  show CF E S 0 [(0, .ref (adr (vG E) 17 0)), (1, .int x1)] []
  unfold E_X7_isName at hm
  refine cf_iload_n C dX7_isName_0 rfl 1 rfl ?_
  refine cf_aload_n C dX7_isName_1 rfl 0 rfl ?_
  refine gf_7_8 C inX7 okM_17 q702 dX7_isName_2 ?_
  refine cf_if_ne C (tgt := 13) dX7_isName_5 (by decide) hm (fun hm => ?_) (fun hm => ?_)
  · refine cf_bipush C dX7_isName_13 (v := 102) rfl ?_
    exact w_J_X7_isName_15 C hR x1 102 x1 _ hm
  · refine cf_bipush C dX7_isName_8 (v := 99) rfl ?_
    refine cf_goto C (tgt := 15) dX7_isName_10 (by decide) ?_
    exact w_J_X7_isName_15 C hR x1 99 x1 _ hm

def E_X7_opens  (S : St) (Q : Int32 → St → Prop) : Prop := if (S.1 17 6) = 5 then (Q 0 S) else (nmS (stI S 17 6 ((S.1 17 6) + 1)) (fun S1 => nmS (stI S1 17 5 ((S1.1 17 5) + 1)) (fun S2 => Q 1 S2)))
set_option maxRecDepth 20000 in
theorem c_X7_opens (l : Launch) (G : GX)  (S : St) (Q : Int32 → St → Prop)  (hm : E_X7_opens  S Q) : CTi l yX7_opens (Cond.code yX7_opens cX7_opens 1 (some .boolean) :: AW) { frames := 0, cells := 0, slots := 0, locals := 0 } G enM [.ref (adr G 17 0)] S Q := by
  refine ct_start_z (by decide) enM_nd (Nat.le_of_ble_eq_true rfl) (fun E hG hl C hR => ?_)
  subst hG
  subst hl
  show CF E S 0 [(0, .ref (adr (vG E) 17 0))] []
  unfold E_X7_opens at hm
  refine cf_aload_n C dX7_opens_0 rfl 0 rfl ?_
  refine gf_7_6 C inX7 okM_17 q700 dX7_opens_1 ?_
  refine cf_iconst C dX7_opens_4 (v := 5) rfl ?_
  refine cf_icmp_ne C (tgt := 10) dX7_opens_5 (by decide) hm (fun hm => ?_) (fun hm => ?_)
  · refine cf_aload_n C dX7_opens_10 rfl 0 rfl ?_
    refine cf_dup C dX7_opens_11 rfl ?_
    refine gf_7_6 C inX7 okM_17 q700 dX7_opens_12 ?_
    refine cf_iconst C dX7_opens_15 (v := 1) rfl ?_
    refine cf_iadd C dX7_opens_16 ?_
    refine pf_7_6 C inX7 okM_17 q700 dX7_opens_17 ?_
    refine cf_nmS hm (fun S1 hm => ?_)
    refine cf_aload_n C dX7_opens_20 rfl 0 rfl ?_
    refine cf_dup C dX7_opens_21 rfl ?_
    refine gf_7_5 C inX7 okM_17 q699 dX7_opens_22 ?_
    refine cf_iconst C dX7_opens_25 (v := 1) rfl ?_
    refine cf_iadd C dX7_opens_26 ?_
    refine pf_7_5 C inX7 okM_17 q699 dX7_opens_27 ?_
    refine cf_nmS hm (fun S2 hm => ?_)
    refine cf_iconst C dX7_opens_30 (v := 1) rfl ?_
    exact hR _ _ _ _ dX7_opens_31 (Or.inr rfl) hm
  · refine cf_iconst C dX7_opens_8 (v := 0) rfl ?_
    exact hR _ _ _ _ dX7_opens_9 (Or.inl rfl) hm

def L_X7_whole_9  (r_X7_whole : St → (Int32 → St → Prop) → Prop) (r_X7_both : St → (Int32 → St → Prop) → Prop) (r_X7_compared : St → (Int32 → St → Prop) → Prop) (r_X7_sum : St → (Int32 → St → Prop) → Prop) (r_X7_product : St → (Int32 → St → Prop) → Prop) (r_X7_one : St → (Int32 → St → Prop) → Prop)  (Q : Int32 → St → Prop) : Nat → St → Prop
  | 0 => fun _ => False
  | n + 1 => fun S => E_X7_look S (fun v4 S3 => if v4 = 124 then (nmS (stI S3 17 5 ((S3.1 17 5) + 1)) (fun S5 => r_X7_both S5 (fun v7 S6 => if v7 = 0 then (Q 0 S6) else (E_X7_step1 3 124 S6 (fun S8 => L_X7_whole_9 r_X7_whole r_X7_both r_X7_compared r_X7_sum r_X7_product r_X7_one Q n S8))))) else (Q 1 S3))
set_option maxRecDepth 20000 in
theorem w_L_X7_whole_9 {E : EV} {Q : Int32 → St → Prop}  {r_X7_whole : St → (Int32 → St → Prop) → Prop} {r_X7_both : St → (Int32 → St → Prop) → Prop} {r_X7_compared : St → (Int32 → St → Prop) → Prop} {r_X7_sum : St → (Int32 → St → Prop) → Prop} {r_X7_product : St → (Int32 → St → Prop) → Prop} {r_X7_one : St → (Int32 → St → Prop) → Prop} {D : Nat} (C : CX E cX7_whole RX7 1 enM (D + 1 + 1) (30 * (D + 1) + 22))  (hr_X7_whole : ∀  (S : St) (Q : Int32 → St → Prop), r_X7_whole  S Q → CTi (vL E) yX7_whole (Cond.code yX7_whole cX7_whole 1 (some .boolean) :: AW) { frames := D + 1, cells := 0, slots := 0, locals := 30 * D + 22 } (vG E) enM [.ref (adr (vG E) 17 0)] S Q) (hr_X7_both : ∀  (S : St) (Q : Int32 → St → Prop), r_X7_both  S Q → CTi (vL E) yX7_both (Cond.code yX7_both cX7_both 1 (some .boolean) :: AW) { frames := D + 1, cells := 0, slots := 0, locals := 30 * D + 22 } (vG E) enM [.ref (adr (vG E) 17 0)] S Q) (hr_X7_compared : ∀  (S : St) (Q : Int32 → St → Prop), r_X7_compared  S Q → CTi (vL E) yX7_compared (Cond.code yX7_compared cX7_compared 2 (some .boolean) :: AW) { frames := D + 1, cells := 0, slots := 0, locals := 30 * D + 22 } (vG E) enM [.ref (adr (vG E) 17 0)] S Q) (hr_X7_sum : ∀  (S : St) (Q : Int32 → St → Prop), r_X7_sum  S Q → CTi (vL E) yX7_sum (Cond.code yX7_sum cX7_sum 2 (some .boolean) :: AW) { frames := D + 1, cells := 0, slots := 0, locals := 30 * D + 22 } (vG E) enM [.ref (adr (vG E) 17 0)] S Q) (hr_X7_product : ∀  (S : St) (Q : Int32 → St → Prop), r_X7_product  S Q → CTi (vL E) yX7_product (Cond.code yX7_product cX7_product 2 (some .boolean) :: AW) { frames := D + 1, cells := 0, slots := 0, locals := 30 * D + 22 } (vG E) enM [.ref (adr (vG E) 17 0)] S Q) (hr_X7_one : ∀  (S : St) (Q : Int32 → St → Prop), r_X7_one  S Q → CTi (vL E) yX7_one (Cond.code yX7_one cX7_one 4 (some .boolean) :: AW) { frames := D + 1, cells := 0, slots := 0, locals := 30 * D + 22 } (vG E) enM [.ref (adr (vG E) 17 0)] S Q) (hR : RTz E cX7_whole Q) : ∀ (n : Nat)  (S : St), L_X7_whole_9 r_X7_whole r_X7_both r_X7_compared r_X7_sum r_X7_product r_X7_one Q n  S → CF E S 9 [(0, .ref (adr (vG E) 17 0))] [] := by
  intro n
  induction n with
  | zero =>
    intro S hm
    exact hm.elim
  | succ n ih =>
    intro S hm
    unfold L_X7_whole_9 at hm
    refine cf_aload_n C dX7_whole_9 rfl 0 rfl ?_
    refine cf_callVi C [] [] okM_17.1 (ocell_7 okM_17.2.1) rfl q805 q26 (c_X7_look (vL E) (vG E)  _ _  hm) q803 q806 q72 md_X7_look (by omega) (by omega) rfl rfl (Nat.le_of_ble_eq_true rfl) dX7_whole_10 (fun v4 S3 hm => ?_)
    refine cf_bipush C dX7_whole_13 (v := 124) rfl ?_
    refine cf_icmp_ne C (tgt := 47) dX7_whole_15 (by decide) hm (fun hm => ?_) (fun hm => ?_)
    · refine cf_iconst C dX7_whole_47 (v := 1) rfl ?_
      exact hR _ _ _ _ dX7_whole_48 (Or.inr rfl) hm
    · refine cf_aload_n C dX7_whole_18 rfl 0 rfl ?_
      refine cf_dup C dX7_whole_19 rfl ?_
      refine gf_7_5 C inX7 okM_17 q699 dX7_whole_20 ?_
      refine cf_iconst C dX7_whole_23 (v := 1) rfl ?_
      refine cf_iadd C dX7_whole_24 ?_
      refine pf_7_5 C inX7 okM_17 q699 dX7_whole_25 ?_
      refine cf_nmS hm (fun S5 hm => ?_)
      refine cf_aload_n C dX7_whole_28 rfl 0 rfl ?_
      refine cf_callVi C [] [] okM_17.1 (ocell_7 okM_17.2.1) rfl q785 q21 (hr_X7_both  _ _  hm) q783 q786 q72 md_X7_both (by omega) (by omega) rfl rfl (Nat.le_of_ble_eq_true rfl) dX7_whole_29 (fun v7 S6 hm => ?_)
      refine cf_if_ne C (tgt := 37) dX7_whole_32 (by decide) hm (fun hm => ?_) (fun hm => ?_)
      · refine cf_aload_n C dX7_whole_37 rfl 0 rfl ?_
        refine cf_iconst C dX7_whole_38 (v := 3) rfl ?_
        refine cf_bipush C dX7_whole_39 (v := 124) rfl ?_
        refine cf_callVv C [.int 3, .int 124] [] okM_17.1 (ocell_7 okM_17.2.1) rfl q813 q28 (c_X7_step1 (vL E) (vG E) 3 124 _ _  hm) q811 q814 q72 md_X7_step1 (by omega) (by omega) rfl rfl (Nat.le_of_ble_eq_true rfl) dX7_whole_41 (fun S8 hm => ?_)
        refine cf_goto C (tgt := 9) dX7_whole_44 (by decide) ?_
        exact ih _ hm
      · refine cf_iconst C dX7_whole_35 (v := 0) rfl ?_
        exact hR _ _ _ _ dX7_whole_36 (Or.inl rfl) hm
def B_X7_whole (r_X7_whole : St → (Int32 → St → Prop) → Prop) (r_X7_both : St → (Int32 → St → Prop) → Prop) (r_X7_compared : St → (Int32 → St → Prop) → Prop) (r_X7_sum : St → (Int32 → St → Prop) → Prop) (r_X7_product : St → (Int32 → St → Prop) → Prop) (r_X7_one : St → (Int32 → St → Prop) → Prop)  (S : St) (Q : Int32 → St → Prop) : Prop := r_X7_both S (fun v2 S1 => if v2 = 0 then (Q 0 S1) else (∃ k, L_X7_whole_9 r_X7_whole r_X7_both r_X7_compared r_X7_sum r_X7_product r_X7_one Q k S1))
set_option maxRecDepth 20000 in
theorem cb_X7_whole (l : Launch) (G : GX) (D : Nat) {r_X7_whole : St → (Int32 → St → Prop) → Prop} {r_X7_both : St → (Int32 → St → Prop) → Prop} {r_X7_compared : St → (Int32 → St → Prop) → Prop} {r_X7_sum : St → (Int32 → St → Prop) → Prop} {r_X7_product : St → (Int32 → St → Prop) → Prop} {r_X7_one : St → (Int32 → St → Prop) → Prop} (hr_X7_whole : ∀  (S : St) (Q : Int32 → St → Prop), r_X7_whole  S Q → CTi l yX7_whole (Cond.code yX7_whole cX7_whole 1 (some .boolean) :: AW) { frames := D + 1, cells := 0, slots := 0, locals := 30 * D + 22 } G enM [.ref (adr G 17 0)] S Q) (hr_X7_both : ∀  (S : St) (Q : Int32 → St → Prop), r_X7_both  S Q → CTi l yX7_both (Cond.code yX7_both cX7_both 1 (some .boolean) :: AW) { frames := D + 1, cells := 0, slots := 0, locals := 30 * D + 22 } G enM [.ref (adr G 17 0)] S Q) (hr_X7_compared : ∀  (S : St) (Q : Int32 → St → Prop), r_X7_compared  S Q → CTi l yX7_compared (Cond.code yX7_compared cX7_compared 2 (some .boolean) :: AW) { frames := D + 1, cells := 0, slots := 0, locals := 30 * D + 22 } G enM [.ref (adr G 17 0)] S Q) (hr_X7_sum : ∀  (S : St) (Q : Int32 → St → Prop), r_X7_sum  S Q → CTi l yX7_sum (Cond.code yX7_sum cX7_sum 2 (some .boolean) :: AW) { frames := D + 1, cells := 0, slots := 0, locals := 30 * D + 22 } G enM [.ref (adr G 17 0)] S Q) (hr_X7_product : ∀  (S : St) (Q : Int32 → St → Prop), r_X7_product  S Q → CTi l yX7_product (Cond.code yX7_product cX7_product 2 (some .boolean) :: AW) { frames := D + 1, cells := 0, slots := 0, locals := 30 * D + 22 } G enM [.ref (adr G 17 0)] S Q) (hr_X7_one : ∀  (S : St) (Q : Int32 → St → Prop), r_X7_one  S Q → CTi l yX7_one (Cond.code yX7_one cX7_one 4 (some .boolean) :: AW) { frames := D + 1, cells := 0, slots := 0, locals := 30 * D + 22 } G enM [.ref (adr G 17 0)] S Q)  (S : St) (Q : Int32 → St → Prop)  (hm : B_X7_whole r_X7_whole r_X7_both r_X7_compared r_X7_sum r_X7_product r_X7_one  S Q) : CTi l yX7_whole (Cond.code yX7_whole cX7_whole 1 (some .boolean) :: AW) { frames := (D + 1 + 1), cells := 0, slots := 0, locals := (30 * (D + 1) + 22) } G enM [.ref (adr G 17 0)] S Q := by
  refine ct_start_z (by decide) enM_nd (Nat.le_of_ble_eq_true rfl) (fun E hG hl C hR => ?_)
  subst hG
  subst hl
  show CF E S 0 [(0, .ref (adr (vG E) 17 0))] []
  unfold B_X7_whole at hm
  refine cf_aload_n C dX7_whole_0 rfl 0 rfl ?_
  refine cf_callVi C [] [] okM_17.1 (ocell_7 okM_17.2.1) rfl q785 q21 (hr_X7_both  _ _  hm) q783 q786 q72 md_X7_both (by omega) (by omega) rfl rfl (Nat.le_of_ble_eq_true rfl) dX7_whole_1 (fun v2 S1 hm => ?_)
  refine cf_if_ne C (tgt := 9) dX7_whole_4 (by decide) hm (fun hm => ?_) (fun hm => ?_)
  · obtain ⟨k, hm⟩ := hm
    exact w_L_X7_whole_9 C hr_X7_whole hr_X7_both hr_X7_compared hr_X7_sum hr_X7_product hr_X7_one hR k _ hm
  · refine cf_iconst C dX7_whole_7 (v := 0) rfl ?_
    exact hR _ _ _ _ dX7_whole_8 (Or.inl rfl) hm
def L_X7_both_9  (r_X7_whole : St → (Int32 → St → Prop) → Prop) (r_X7_both : St → (Int32 → St → Prop) → Prop) (r_X7_compared : St → (Int32 → St → Prop) → Prop) (r_X7_sum : St → (Int32 → St → Prop) → Prop) (r_X7_product : St → (Int32 → St → Prop) → Prop) (r_X7_one : St → (Int32 → St → Prop) → Prop)  (Q : Int32 → St → Prop) : Nat → St → Prop
  | 0 => fun _ => False
  | n + 1 => fun S => E_X7_look S (fun v4 S3 => if v4 = 38 then (nmS (stI S3 17 5 ((S3.1 17 5) + 1)) (fun S5 => r_X7_compared S5 (fun v7 S6 => if v7 = 0 then (Q 0 S6) else (E_X7_step1 3 38 S6 (fun S8 => L_X7_both_9 r_X7_whole r_X7_both r_X7_compared r_X7_sum r_X7_product r_X7_one Q n S8))))) else (Q 1 S3))
set_option maxRecDepth 20000 in
theorem w_L_X7_both_9 {E : EV} {Q : Int32 → St → Prop}  {r_X7_whole : St → (Int32 → St → Prop) → Prop} {r_X7_both : St → (Int32 → St → Prop) → Prop} {r_X7_compared : St → (Int32 → St → Prop) → Prop} {r_X7_sum : St → (Int32 → St → Prop) → Prop} {r_X7_product : St → (Int32 → St → Prop) → Prop} {r_X7_one : St → (Int32 → St → Prop) → Prop} {D : Nat} (C : CX E cX7_both RX7 1 enM (D + 1 + 1) (30 * (D + 1) + 22))  (hr_X7_whole : ∀  (S : St) (Q : Int32 → St → Prop), r_X7_whole  S Q → CTi (vL E) yX7_whole (Cond.code yX7_whole cX7_whole 1 (some .boolean) :: AW) { frames := D + 1, cells := 0, slots := 0, locals := 30 * D + 22 } (vG E) enM [.ref (adr (vG E) 17 0)] S Q) (hr_X7_both : ∀  (S : St) (Q : Int32 → St → Prop), r_X7_both  S Q → CTi (vL E) yX7_both (Cond.code yX7_both cX7_both 1 (some .boolean) :: AW) { frames := D + 1, cells := 0, slots := 0, locals := 30 * D + 22 } (vG E) enM [.ref (adr (vG E) 17 0)] S Q) (hr_X7_compared : ∀  (S : St) (Q : Int32 → St → Prop), r_X7_compared  S Q → CTi (vL E) yX7_compared (Cond.code yX7_compared cX7_compared 2 (some .boolean) :: AW) { frames := D + 1, cells := 0, slots := 0, locals := 30 * D + 22 } (vG E) enM [.ref (adr (vG E) 17 0)] S Q) (hr_X7_sum : ∀  (S : St) (Q : Int32 → St → Prop), r_X7_sum  S Q → CTi (vL E) yX7_sum (Cond.code yX7_sum cX7_sum 2 (some .boolean) :: AW) { frames := D + 1, cells := 0, slots := 0, locals := 30 * D + 22 } (vG E) enM [.ref (adr (vG E) 17 0)] S Q) (hr_X7_product : ∀  (S : St) (Q : Int32 → St → Prop), r_X7_product  S Q → CTi (vL E) yX7_product (Cond.code yX7_product cX7_product 2 (some .boolean) :: AW) { frames := D + 1, cells := 0, slots := 0, locals := 30 * D + 22 } (vG E) enM [.ref (adr (vG E) 17 0)] S Q) (hr_X7_one : ∀  (S : St) (Q : Int32 → St → Prop), r_X7_one  S Q → CTi (vL E) yX7_one (Cond.code yX7_one cX7_one 4 (some .boolean) :: AW) { frames := D + 1, cells := 0, slots := 0, locals := 30 * D + 22 } (vG E) enM [.ref (adr (vG E) 17 0)] S Q) (hR : RTz E cX7_both Q) : ∀ (n : Nat)  (S : St), L_X7_both_9 r_X7_whole r_X7_both r_X7_compared r_X7_sum r_X7_product r_X7_one Q n  S → CF E S 9 [(0, .ref (adr (vG E) 17 0))] [] := by
  intro n
  induction n with
  | zero =>
    intro S hm
    exact hm.elim
  | succ n ih =>
    intro S hm
    unfold L_X7_both_9 at hm
    refine cf_aload_n C dX7_both_9 rfl 0 rfl ?_
    refine cf_callVi C [] [] okM_17.1 (ocell_7 okM_17.2.1) rfl q805 q26 (c_X7_look (vL E) (vG E)  _ _  hm) q803 q806 q72 md_X7_look (by omega) (by omega) rfl rfl (Nat.le_of_ble_eq_true rfl) dX7_both_10 (fun v4 S3 hm => ?_)
    refine cf_bipush C dX7_both_13 (v := 38) rfl ?_
    refine cf_icmp_ne C (tgt := 47) dX7_both_15 (by decide) hm (fun hm => ?_) (fun hm => ?_)
    · refine cf_iconst C dX7_both_47 (v := 1) rfl ?_
      exact hR _ _ _ _ dX7_both_48 (Or.inr rfl) hm
    · refine cf_aload_n C dX7_both_18 rfl 0 rfl ?_
      refine cf_dup C dX7_both_19 rfl ?_
      refine gf_7_5 C inX7 okM_17 q699 dX7_both_20 ?_
      refine cf_iconst C dX7_both_23 (v := 1) rfl ?_
      refine cf_iadd C dX7_both_24 ?_
      refine pf_7_5 C inX7 okM_17 q699 dX7_both_25 ?_
      refine cf_nmS hm (fun S5 hm => ?_)
      refine cf_aload_n C dX7_both_28 rfl 0 rfl ?_
      refine cf_callVi C [] [] okM_17.1 (ocell_7 okM_17.2.1) rfl q789 q22 (hr_X7_compared  _ _  hm) q787 q790 q72 md_X7_compared (by omega) (by omega) rfl rfl (Nat.le_of_ble_eq_true rfl) dX7_both_29 (fun v7 S6 hm => ?_)
      refine cf_if_ne C (tgt := 37) dX7_both_32 (by decide) hm (fun hm => ?_) (fun hm => ?_)
      · refine cf_aload_n C dX7_both_37 rfl 0 rfl ?_
        refine cf_iconst C dX7_both_38 (v := 3) rfl ?_
        refine cf_bipush C dX7_both_39 (v := 38) rfl ?_
        refine cf_callVv C [.int 3, .int 38] [] okM_17.1 (ocell_7 okM_17.2.1) rfl q813 q28 (c_X7_step1 (vL E) (vG E) 3 38 _ _  hm) q811 q814 q72 md_X7_step1 (by omega) (by omega) rfl rfl (Nat.le_of_ble_eq_true rfl) dX7_both_41 (fun S8 hm => ?_)
        refine cf_goto C (tgt := 9) dX7_both_44 (by decide) ?_
        exact ih _ hm
      · refine cf_iconst C dX7_both_35 (v := 0) rfl ?_
        exact hR _ _ _ _ dX7_both_36 (Or.inl rfl) hm
def B_X7_both (r_X7_whole : St → (Int32 → St → Prop) → Prop) (r_X7_both : St → (Int32 → St → Prop) → Prop) (r_X7_compared : St → (Int32 → St → Prop) → Prop) (r_X7_sum : St → (Int32 → St → Prop) → Prop) (r_X7_product : St → (Int32 → St → Prop) → Prop) (r_X7_one : St → (Int32 → St → Prop) → Prop)  (S : St) (Q : Int32 → St → Prop) : Prop := r_X7_compared S (fun v2 S1 => if v2 = 0 then (Q 0 S1) else (∃ k, L_X7_both_9 r_X7_whole r_X7_both r_X7_compared r_X7_sum r_X7_product r_X7_one Q k S1))
set_option maxRecDepth 20000 in
theorem cb_X7_both (l : Launch) (G : GX) (D : Nat) {r_X7_whole : St → (Int32 → St → Prop) → Prop} {r_X7_both : St → (Int32 → St → Prop) → Prop} {r_X7_compared : St → (Int32 → St → Prop) → Prop} {r_X7_sum : St → (Int32 → St → Prop) → Prop} {r_X7_product : St → (Int32 → St → Prop) → Prop} {r_X7_one : St → (Int32 → St → Prop) → Prop} (hr_X7_whole : ∀  (S : St) (Q : Int32 → St → Prop), r_X7_whole  S Q → CTi l yX7_whole (Cond.code yX7_whole cX7_whole 1 (some .boolean) :: AW) { frames := D + 1, cells := 0, slots := 0, locals := 30 * D + 22 } G enM [.ref (adr G 17 0)] S Q) (hr_X7_both : ∀  (S : St) (Q : Int32 → St → Prop), r_X7_both  S Q → CTi l yX7_both (Cond.code yX7_both cX7_both 1 (some .boolean) :: AW) { frames := D + 1, cells := 0, slots := 0, locals := 30 * D + 22 } G enM [.ref (adr G 17 0)] S Q) (hr_X7_compared : ∀  (S : St) (Q : Int32 → St → Prop), r_X7_compared  S Q → CTi l yX7_compared (Cond.code yX7_compared cX7_compared 2 (some .boolean) :: AW) { frames := D + 1, cells := 0, slots := 0, locals := 30 * D + 22 } G enM [.ref (adr G 17 0)] S Q) (hr_X7_sum : ∀  (S : St) (Q : Int32 → St → Prop), r_X7_sum  S Q → CTi l yX7_sum (Cond.code yX7_sum cX7_sum 2 (some .boolean) :: AW) { frames := D + 1, cells := 0, slots := 0, locals := 30 * D + 22 } G enM [.ref (adr G 17 0)] S Q) (hr_X7_product : ∀  (S : St) (Q : Int32 → St → Prop), r_X7_product  S Q → CTi l yX7_product (Cond.code yX7_product cX7_product 2 (some .boolean) :: AW) { frames := D + 1, cells := 0, slots := 0, locals := 30 * D + 22 } G enM [.ref (adr G 17 0)] S Q) (hr_X7_one : ∀  (S : St) (Q : Int32 → St → Prop), r_X7_one  S Q → CTi l yX7_one (Cond.code yX7_one cX7_one 4 (some .boolean) :: AW) { frames := D + 1, cells := 0, slots := 0, locals := 30 * D + 22 } G enM [.ref (adr G 17 0)] S Q)  (S : St) (Q : Int32 → St → Prop)  (hm : B_X7_both r_X7_whole r_X7_both r_X7_compared r_X7_sum r_X7_product r_X7_one  S Q) : CTi l yX7_both (Cond.code yX7_both cX7_both 1 (some .boolean) :: AW) { frames := (D + 1 + 1), cells := 0, slots := 0, locals := (30 * (D + 1) + 22) } G enM [.ref (adr G 17 0)] S Q := by
  refine ct_start_z (by decide) enM_nd (Nat.le_of_ble_eq_true rfl) (fun E hG hl C hR => ?_)
  subst hG
  subst hl
  show CF E S 0 [(0, .ref (adr (vG E) 17 0))] []
  unfold B_X7_both at hm
  refine cf_aload_n C dX7_both_0 rfl 0 rfl ?_
  refine cf_callVi C [] [] okM_17.1 (ocell_7 okM_17.2.1) rfl q789 q22 (hr_X7_compared  _ _  hm) q787 q790 q72 md_X7_compared (by omega) (by omega) rfl rfl (Nat.le_of_ble_eq_true rfl) dX7_both_1 (fun v2 S1 hm => ?_)
  refine cf_if_ne C (tgt := 9) dX7_both_4 (by decide) hm (fun hm => ?_) (fun hm => ?_)
  · obtain ⟨k, hm⟩ := hm
    exact w_L_X7_both_9 C hr_X7_whole hr_X7_both hr_X7_compared hr_X7_sum hr_X7_product hr_X7_one hR k _ hm
  · refine cf_iconst C dX7_both_7 (v := 0) rfl ?_
    exact hR _ _ _ _ dX7_both_8 (Or.inl rfl) hm
def J_X7_compared_34  (r_X7_whole : St → (Int32 → St → Prop) → Prop) (r_X7_both : St → (Int32 → St → Prop) → Prop) (r_X7_compared : St → (Int32 → St → Prop) → Prop) (r_X7_sum : St → (Int32 → St → Prop) → Prop) (r_X7_product : St → (Int32 → St → Prop) → Prop) (r_X7_one : St → (Int32 → St → Prop) → Prop)  (Q : Int32 → St → Prop) (x1 : Int32) (S : St) : Prop := nmS (stI S 17 5 ((S.1 17 5) + 1)) (fun S5 => r_X7_sum S5 (fun v7 S6 => if v7 = 0 then (Q 0 S6) else (E_X7_step1 3 x1 S6 (fun S8 => Q 1 S8))))
set_option maxRecDepth 20000 in
theorem w_J_X7_compared_34 {E : EV} {Q : Int32 → St → Prop}  {r_X7_whole : St → (Int32 → St → Prop) → Prop} {r_X7_both : St → (Int32 → St → Prop) → Prop} {r_X7_compared : St → (Int32 → St → Prop) → Prop} {r_X7_sum : St → (Int32 → St → Prop) → Prop} {r_X7_product : St → (Int32 → St → Prop) → Prop} {r_X7_one : St → (Int32 → St → Prop) → Prop} {D : Nat} (C : CX E cX7_compared RX7 2 enM (D + 1 + 1) (30 * (D + 1) + 22))  (hr_X7_whole : ∀  (S : St) (Q : Int32 → St → Prop), r_X7_whole  S Q → CTi (vL E) yX7_whole (Cond.code yX7_whole cX7_whole 1 (some .boolean) :: AW) { frames := D + 1, cells := 0, slots := 0, locals := 30 * D + 22 } (vG E) enM [.ref (adr (vG E) 17 0)] S Q) (hr_X7_both : ∀  (S : St) (Q : Int32 → St → Prop), r_X7_both  S Q → CTi (vL E) yX7_both (Cond.code yX7_both cX7_both 1 (some .boolean) :: AW) { frames := D + 1, cells := 0, slots := 0, locals := 30 * D + 22 } (vG E) enM [.ref (adr (vG E) 17 0)] S Q) (hr_X7_compared : ∀  (S : St) (Q : Int32 → St → Prop), r_X7_compared  S Q → CTi (vL E) yX7_compared (Cond.code yX7_compared cX7_compared 2 (some .boolean) :: AW) { frames := D + 1, cells := 0, slots := 0, locals := 30 * D + 22 } (vG E) enM [.ref (adr (vG E) 17 0)] S Q) (hr_X7_sum : ∀  (S : St) (Q : Int32 → St → Prop), r_X7_sum  S Q → CTi (vL E) yX7_sum (Cond.code yX7_sum cX7_sum 2 (some .boolean) :: AW) { frames := D + 1, cells := 0, slots := 0, locals := 30 * D + 22 } (vG E) enM [.ref (adr (vG E) 17 0)] S Q) (hr_X7_product : ∀  (S : St) (Q : Int32 → St → Prop), r_X7_product  S Q → CTi (vL E) yX7_product (Cond.code yX7_product cX7_product 2 (some .boolean) :: AW) { frames := D + 1, cells := 0, slots := 0, locals := 30 * D + 22 } (vG E) enM [.ref (adr (vG E) 17 0)] S Q) (hr_X7_one : ∀  (S : St) (Q : Int32 → St → Prop), r_X7_one  S Q → CTi (vL E) yX7_one (Cond.code yX7_one cX7_one 4 (some .boolean) :: AW) { frames := D + 1, cells := 0, slots := 0, locals := 30 * D + 22 } (vG E) enM [.ref (adr (vG E) 17 0)] S Q) (hR : RTz E cX7_compared Q) : ∀ (x1 : Int32) (S : St), J_X7_compared_34 r_X7_whole r_X7_both r_X7_compared r_X7_sum r_X7_product r_X7_one Q x1 S → CF E S 34 [(0, .ref (adr (vG E) 17 0)), (1, .int x1)] [] := by
  intro x1 S hm
  unfold J_X7_compared_34 at hm
  refine cf_aload_n C dX7_compared_34 rfl 0 rfl ?_
  refine cf_dup C dX7_compared_35 rfl ?_
  refine gf_7_5 C inX7 okM_17 q699 dX7_compared_36 ?_
  refine cf_iconst C dX7_compared_39 (v := 1) rfl ?_
  refine cf_iadd C dX7_compared_40 ?_
  refine pf_7_5 C inX7 okM_17 q699 dX7_compared_41 ?_
  refine cf_nmS hm (fun S5 hm => ?_)
  refine cf_aload_n C dX7_compared_44 rfl 0 rfl ?_
  refine cf_callVi C [] [] okM_17.1 (ocell_7 okM_17.2.1) rfl q793 q23 (hr_X7_sum  _ _  hm) q791 q794 q72 md_X7_sum (by omega) (by omega) rfl rfl (Nat.le_of_ble_eq_true rfl) dX7_compared_45 (fun v7 S6 hm => ?_)
  refine cf_if_ne C (tgt := 53) dX7_compared_48 (by decide) hm (fun hm => ?_) (fun hm => ?_)
  · refine cf_aload_n C dX7_compared_53 rfl 0 rfl ?_
    refine cf_iconst C dX7_compared_54 (v := 3) rfl ?_
    refine cf_iload_n C dX7_compared_55 rfl 1 rfl ?_
    refine cf_callVv C [.int 3, .int x1] [] okM_17.1 (ocell_7 okM_17.2.1) rfl q813 q28 (c_X7_step1 (vL E) (vG E) 3 x1 _ _  hm) q811 q814 q72 md_X7_step1 (by omega) (by omega) rfl rfl (Nat.le_of_ble_eq_true rfl) dX7_compared_56 (fun S8 hm => ?_)
    refine cf_iconst C dX7_compared_59 (v := 1) rfl ?_
    exact hR _ _ _ _ dX7_compared_60 (Or.inr rfl) hm
  · refine cf_iconst C dX7_compared_51 (v := 0) rfl ?_
    exact hR _ _ _ _ dX7_compared_52 (Or.inl rfl) hm
def B_X7_compared (r_X7_whole : St → (Int32 → St → Prop) → Prop) (r_X7_both : St → (Int32 → St → Prop) → Prop) (r_X7_compared : St → (Int32 → St → Prop) → Prop) (r_X7_sum : St → (Int32 → St → Prop) → Prop) (r_X7_product : St → (Int32 → St → Prop) → Prop) (r_X7_one : St → (Int32 → St → Prop) → Prop)  (S : St) (Q : Int32 → St → Prop) : Prop := r_X7_sum S (fun v2 S1 => if v2 = 0 then (Q 0 S1) else (E_X7_look S1 (fun v4 S3 => if v4 = 60 then (J_X7_compared_34 r_X7_whole r_X7_both r_X7_compared r_X7_sum r_X7_product r_X7_one Q v4 S3) else (if v4 = 61 then (J_X7_compared_34 r_X7_whole r_X7_both r_X7_compared r_X7_sum r_X7_product r_X7_one Q v4 S3) else (if v4 = 62 then (J_X7_compared_34 r_X7_whole r_X7_both r_X7_compared r_X7_sum r_X7_product r_X7_one Q v4 S3) else (Q 1 S3))))))
set_option maxRecDepth 20000 in
theorem cb_X7_compared (l : Launch) (G : GX) (D : Nat) {r_X7_whole : St → (Int32 → St → Prop) → Prop} {r_X7_both : St → (Int32 → St → Prop) → Prop} {r_X7_compared : St → (Int32 → St → Prop) → Prop} {r_X7_sum : St → (Int32 → St → Prop) → Prop} {r_X7_product : St → (Int32 → St → Prop) → Prop} {r_X7_one : St → (Int32 → St → Prop) → Prop} (hr_X7_whole : ∀  (S : St) (Q : Int32 → St → Prop), r_X7_whole  S Q → CTi l yX7_whole (Cond.code yX7_whole cX7_whole 1 (some .boolean) :: AW) { frames := D + 1, cells := 0, slots := 0, locals := 30 * D + 22 } G enM [.ref (adr G 17 0)] S Q) (hr_X7_both : ∀  (S : St) (Q : Int32 → St → Prop), r_X7_both  S Q → CTi l yX7_both (Cond.code yX7_both cX7_both 1 (some .boolean) :: AW) { frames := D + 1, cells := 0, slots := 0, locals := 30 * D + 22 } G enM [.ref (adr G 17 0)] S Q) (hr_X7_compared : ∀  (S : St) (Q : Int32 → St → Prop), r_X7_compared  S Q → CTi l yX7_compared (Cond.code yX7_compared cX7_compared 2 (some .boolean) :: AW) { frames := D + 1, cells := 0, slots := 0, locals := 30 * D + 22 } G enM [.ref (adr G 17 0)] S Q) (hr_X7_sum : ∀  (S : St) (Q : Int32 → St → Prop), r_X7_sum  S Q → CTi l yX7_sum (Cond.code yX7_sum cX7_sum 2 (some .boolean) :: AW) { frames := D + 1, cells := 0, slots := 0, locals := 30 * D + 22 } G enM [.ref (adr G 17 0)] S Q) (hr_X7_product : ∀  (S : St) (Q : Int32 → St → Prop), r_X7_product  S Q → CTi l yX7_product (Cond.code yX7_product cX7_product 2 (some .boolean) :: AW) { frames := D + 1, cells := 0, slots := 0, locals := 30 * D + 22 } G enM [.ref (adr G 17 0)] S Q) (hr_X7_one : ∀  (S : St) (Q : Int32 → St → Prop), r_X7_one  S Q → CTi l yX7_one (Cond.code yX7_one cX7_one 4 (some .boolean) :: AW) { frames := D + 1, cells := 0, slots := 0, locals := 30 * D + 22 } G enM [.ref (adr G 17 0)] S Q)  (S : St) (Q : Int32 → St → Prop)  (hm : B_X7_compared r_X7_whole r_X7_both r_X7_compared r_X7_sum r_X7_product r_X7_one  S Q) : CTi l yX7_compared (Cond.code yX7_compared cX7_compared 2 (some .boolean) :: AW) { frames := (D + 1 + 1), cells := 0, slots := 0, locals := (30 * (D + 1) + 22) } G enM [.ref (adr G 17 0)] S Q := by
  refine ct_start_z (by decide) enM_nd (Nat.le_of_ble_eq_true rfl) (fun E hG hl C hR => ?_)
  subst hG
  subst hl
  show CF E S 0 [(0, .ref (adr (vG E) 17 0))] []
  unfold B_X7_compared at hm
  refine cf_aload_n C dX7_compared_0 rfl 0 rfl ?_
  refine cf_callVi C [] [] okM_17.1 (ocell_7 okM_17.2.1) rfl q793 q23 (hr_X7_sum  _ _  hm) q791 q794 q72 md_X7_sum (by omega) (by omega) rfl rfl (Nat.le_of_ble_eq_true rfl) dX7_compared_1 (fun v2 S1 hm => ?_)
  refine cf_if_ne C (tgt := 9) dX7_compared_4 (by decide) hm (fun hm => ?_) (fun hm => ?_)
  · refine cf_aload_n C dX7_compared_9 rfl 0 rfl ?_
    refine cf_callVi C [] [] okM_17.1 (ocell_7 okM_17.2.1) rfl q805 q26 (c_X7_look (vL E) (vG E)  _ _  hm) q803 q806 q72 md_X7_look (by omega) (by omega) rfl rfl (Nat.le_of_ble_eq_true rfl) dX7_compared_10 (fun v4 S3 hm => ?_)
    refine cf_istore_n C (L1 := [(1, .int v4), (0, .ref (adr (vG E) 17 0))]) dX7_compared_13 rfl (by decide) rfl ?_
    refine cf_iload_n C dX7_compared_14 rfl 0 rfl ?_
    refine cf_bipush C dX7_compared_15 (v := 60) rfl ?_
    refine cf_icmp_eq C (tgt := 34) dX7_compared_17 (by decide) hm (fun hm => ?_) (fun hm => ?_)
    · refine cf_sub C [1, 0] rfl ?_
      exact w_J_X7_compared_34 C hr_X7_whole hr_X7_both hr_X7_compared hr_X7_sum hr_X7_product hr_X7_one hR v4 _ hm
    · refine cf_iload_n C dX7_compared_20 rfl 0 rfl ?_
      refine cf_bipush C dX7_compared_21 (v := 61) rfl ?_
      refine cf_icmp_eq C (tgt := 34) dX7_compared_23 (by decide) hm (fun hm => ?_) (fun hm => ?_)
      · refine cf_sub C [1, 0] rfl ?_
        exact w_J_X7_compared_34 C hr_X7_whole hr_X7_both hr_X7_compared hr_X7_sum hr_X7_product hr_X7_one hR v4 _ hm
      · refine cf_iload_n C dX7_compared_26 rfl 0 rfl ?_
        refine cf_bipush C dX7_compared_27 (v := 62) rfl ?_
        refine cf_icmp_eq C (tgt := 34) dX7_compared_29 (by decide) hm (fun hm => ?_) (fun hm => ?_)
        · refine cf_sub C [1, 0] rfl ?_
          exact w_J_X7_compared_34 C hr_X7_whole hr_X7_both hr_X7_compared hr_X7_sum hr_X7_product hr_X7_one hR v4 _ hm
        · refine cf_iconst C dX7_compared_32 (v := 1) rfl ?_
          exact hR _ _ _ _ dX7_compared_33 (Or.inr rfl) hm
  · refine cf_iconst C dX7_compared_7 (v := 0) rfl ?_
    exact hR _ _ _ _ dX7_compared_8 (Or.inl rfl) hm
def J_X7_sum_27  (r_X7_whole : St → (Int32 → St → Prop) → Prop) (r_X7_both : St → (Int32 → St → Prop) → Prop) (r_X7_compared : St → (Int32 → St → Prop) → Prop) (r_X7_sum : St → (Int32 → St → Prop) → Prop) (r_X7_product : St → (Int32 → St → Prop) → Prop) (r_X7_one : St → (Int32 → St → Prop) → Prop) (K9 : St → Prop) (Q : Int32 → St → Prop)  (S : St) : Prop := E_X7_look S (fun v6 S5 => nmS (stI S5 17 5 ((S5.1 17 5) + 1)) (fun S7 => r_X7_product S7 (fun v9 S8 => if v9 = 0 then (Q 0 S8) else (E_X7_step1 3 v6 S8 (fun S10 => K9 S10)))))
set_option maxRecDepth 20000 in
theorem w_J_X7_sum_27 {E : EV} {Q : Int32 → St → Prop}  {r_X7_whole : St → (Int32 → St → Prop) → Prop} {r_X7_both : St → (Int32 → St → Prop) → Prop} {r_X7_compared : St → (Int32 → St → Prop) → Prop} {r_X7_sum : St → (Int32 → St → Prop) → Prop} {r_X7_product : St → (Int32 → St → Prop) → Prop} {r_X7_one : St → (Int32 → St → Prop) → Prop} {D : Nat} (C : CX E cX7_sum RX7 2 enM (D + 1 + 1) (30 * (D + 1) + 22))  (hr_X7_whole : ∀  (S : St) (Q : Int32 → St → Prop), r_X7_whole  S Q → CTi (vL E) yX7_whole (Cond.code yX7_whole cX7_whole 1 (some .boolean) :: AW) { frames := D + 1, cells := 0, slots := 0, locals := 30 * D + 22 } (vG E) enM [.ref (adr (vG E) 17 0)] S Q) (hr_X7_both : ∀  (S : St) (Q : Int32 → St → Prop), r_X7_both  S Q → CTi (vL E) yX7_both (Cond.code yX7_both cX7_both 1 (some .boolean) :: AW) { frames := D + 1, cells := 0, slots := 0, locals := 30 * D + 22 } (vG E) enM [.ref (adr (vG E) 17 0)] S Q) (hr_X7_compared : ∀  (S : St) (Q : Int32 → St → Prop), r_X7_compared  S Q → CTi (vL E) yX7_compared (Cond.code yX7_compared cX7_compared 2 (some .boolean) :: AW) { frames := D + 1, cells := 0, slots := 0, locals := 30 * D + 22 } (vG E) enM [.ref (adr (vG E) 17 0)] S Q) (hr_X7_sum : ∀  (S : St) (Q : Int32 → St → Prop), r_X7_sum  S Q → CTi (vL E) yX7_sum (Cond.code yX7_sum cX7_sum 2 (some .boolean) :: AW) { frames := D + 1, cells := 0, slots := 0, locals := 30 * D + 22 } (vG E) enM [.ref (adr (vG E) 17 0)] S Q) (hr_X7_product : ∀  (S : St) (Q : Int32 → St → Prop), r_X7_product  S Q → CTi (vL E) yX7_product (Cond.code yX7_product cX7_product 2 (some .boolean) :: AW) { frames := D + 1, cells := 0, slots := 0, locals := 30 * D + 22 } (vG E) enM [.ref (adr (vG E) 17 0)] S Q) (hr_X7_one : ∀  (S : St) (Q : Int32 → St → Prop), r_X7_one  S Q → CTi (vL E) yX7_one (Cond.code yX7_one cX7_one 4 (some .boolean) :: AW) { frames := D + 1, cells := 0, slots := 0, locals := 30 * D + 22 } (vG E) enM [.ref (adr (vG E) 17 0)] S Q) (hR : RTz E cX7_sum Q) {K9 : St → Prop} (hK9 : ∀  (S : St), K9  S → CF E S 9 [(0, .ref (adr (vG E) 17 0))] []) : ∀  (S : St), J_X7_sum_27 r_X7_whole r_X7_both r_X7_compared r_X7_sum r_X7_product r_X7_one K9 Q  S → CF E S 27 [(0, .ref (adr (vG E) 17 0))] [] := by
  intro S hm
  unfold J_X7_sum_27 at hm
  refine cf_aload_n C dX7_sum_27 rfl 0 rfl ?_
  refine cf_callVi C [] [] okM_17.1 (ocell_7 okM_17.2.1) rfl q805 q26 (c_X7_look (vL E) (vG E)  _ _  hm) q803 q806 q72 md_X7_look (by omega) (by omega) rfl rfl (Nat.le_of_ble_eq_true rfl) dX7_sum_28 (fun v6 S5 hm => ?_)
  refine cf_istore_n C (L1 := [(1, .int v6), (0, .ref (adr (vG E) 17 0))]) dX7_sum_31 rfl (by decide) rfl ?_
  refine cf_aload_n C dX7_sum_32 rfl 1 rfl ?_
  refine cf_dup C dX7_sum_33 rfl ?_
  refine gf_7_5 C inX7 okM_17 q699 dX7_sum_34 ?_
  refine cf_iconst C dX7_sum_37 (v := 1) rfl ?_
  refine cf_iadd C dX7_sum_38 ?_
  refine pf_7_5 C inX7 okM_17 q699 dX7_sum_39 ?_
  refine cf_nmS hm (fun S7 hm => ?_)
  refine cf_aload_n C dX7_sum_42 rfl 1 rfl ?_
  refine cf_callVi C [] [] okM_17.1 (ocell_7 okM_17.2.1) rfl q797 q24 (hr_X7_product  _ _  hm) q795 q798 q72 md_X7_product (by omega) (by omega) rfl rfl (Nat.le_of_ble_eq_true rfl) dX7_sum_43 (fun v9 S8 hm => ?_)
  refine cf_if_ne C (tgt := 51) dX7_sum_46 (by decide) hm (fun hm => ?_) (fun hm => ?_)
  · refine cf_aload_n C dX7_sum_51 rfl 1 rfl ?_
    refine cf_iconst C dX7_sum_52 (v := 3) rfl ?_
    refine cf_iload_n C dX7_sum_53 rfl 0 rfl ?_
    refine cf_callVv C [.int 3, .int v6] [] okM_17.1 (ocell_7 okM_17.2.1) rfl q813 q28 (c_X7_step1 (vL E) (vG E) 3 v6 _ _  hm) q811 q814 q72 md_X7_step1 (by omega) (by omega) rfl rfl (Nat.le_of_ble_eq_true rfl) dX7_sum_54 (fun S10 hm => ?_)
    refine cf_goto C (tgt := 9) dX7_sum_57 (by decide) ?_
    refine cf_sub C [1] rfl ?_
    exact hK9 _ hm
  · refine cf_iconst C dX7_sum_49 (v := 0) rfl ?_
    exact hR _ _ _ _ dX7_sum_50 (Or.inl rfl) hm
def L_X7_sum_9  (r_X7_whole : St → (Int32 → St → Prop) → Prop) (r_X7_both : St → (Int32 → St → Prop) → Prop) (r_X7_compared : St → (Int32 → St → Prop) → Prop) (r_X7_sum : St → (Int32 → St → Prop) → Prop) (r_X7_product : St → (Int32 → St → Prop) → Prop) (r_X7_one : St → (Int32 → St → Prop) → Prop)  (Q : Int32 → St → Prop) : Nat → St → Prop
  | 0 => fun _ => False
  | n + 1 => fun S => E_X7_look S (fun v4 S3 => if v4 = 43 then (J_X7_sum_27 r_X7_whole r_X7_both r_X7_compared r_X7_sum r_X7_product r_X7_one (L_X7_sum_9 r_X7_whole r_X7_both r_X7_compared r_X7_sum r_X7_product r_X7_one Q n) Q S3) else (E_X7_look S3 (fun v12 S11 => if v12 = 45 then (J_X7_sum_27 r_X7_whole r_X7_both r_X7_compared r_X7_sum r_X7_product r_X7_one (L_X7_sum_9 r_X7_whole r_X7_both r_X7_compared r_X7_sum r_X7_product r_X7_one Q n) Q S11) else (Q 1 S11))))
set_option maxRecDepth 20000 in
theorem w_L_X7_sum_9 {E : EV} {Q : Int32 → St → Prop}  {r_X7_whole : St → (Int32 → St → Prop) → Prop} {r_X7_both : St → (Int32 → St → Prop) → Prop} {r_X7_compared : St → (Int32 → St → Prop) → Prop} {r_X7_sum : St → (Int32 → St → Prop) → Prop} {r_X7_product : St → (Int32 → St → Prop) → Prop} {r_X7_one : St → (Int32 → St → Prop) → Prop} {D : Nat} (C : CX E cX7_sum RX7 2 enM (D + 1 + 1) (30 * (D + 1) + 22))  (hr_X7_whole : ∀  (S : St) (Q : Int32 → St → Prop), r_X7_whole  S Q → CTi (vL E) yX7_whole (Cond.code yX7_whole cX7_whole 1 (some .boolean) :: AW) { frames := D + 1, cells := 0, slots := 0, locals := 30 * D + 22 } (vG E) enM [.ref (adr (vG E) 17 0)] S Q) (hr_X7_both : ∀  (S : St) (Q : Int32 → St → Prop), r_X7_both  S Q → CTi (vL E) yX7_both (Cond.code yX7_both cX7_both 1 (some .boolean) :: AW) { frames := D + 1, cells := 0, slots := 0, locals := 30 * D + 22 } (vG E) enM [.ref (adr (vG E) 17 0)] S Q) (hr_X7_compared : ∀  (S : St) (Q : Int32 → St → Prop), r_X7_compared  S Q → CTi (vL E) yX7_compared (Cond.code yX7_compared cX7_compared 2 (some .boolean) :: AW) { frames := D + 1, cells := 0, slots := 0, locals := 30 * D + 22 } (vG E) enM [.ref (adr (vG E) 17 0)] S Q) (hr_X7_sum : ∀  (S : St) (Q : Int32 → St → Prop), r_X7_sum  S Q → CTi (vL E) yX7_sum (Cond.code yX7_sum cX7_sum 2 (some .boolean) :: AW) { frames := D + 1, cells := 0, slots := 0, locals := 30 * D + 22 } (vG E) enM [.ref (adr (vG E) 17 0)] S Q) (hr_X7_product : ∀  (S : St) (Q : Int32 → St → Prop), r_X7_product  S Q → CTi (vL E) yX7_product (Cond.code yX7_product cX7_product 2 (some .boolean) :: AW) { frames := D + 1, cells := 0, slots := 0, locals := 30 * D + 22 } (vG E) enM [.ref (adr (vG E) 17 0)] S Q) (hr_X7_one : ∀  (S : St) (Q : Int32 → St → Prop), r_X7_one  S Q → CTi (vL E) yX7_one (Cond.code yX7_one cX7_one 4 (some .boolean) :: AW) { frames := D + 1, cells := 0, slots := 0, locals := 30 * D + 22 } (vG E) enM [.ref (adr (vG E) 17 0)] S Q) (hR : RTz E cX7_sum Q) : ∀ (n : Nat)  (S : St), L_X7_sum_9 r_X7_whole r_X7_both r_X7_compared r_X7_sum r_X7_product r_X7_one Q n  S → CF E S 9 [(0, .ref (adr (vG E) 17 0))] [] := by
  intro n
  induction n with
  | zero =>
    intro S hm
    exact hm.elim
  | succ n ih =>
    intro S hm
    unfold L_X7_sum_9 at hm
    refine cf_aload_n C dX7_sum_9 rfl 0 rfl ?_
    refine cf_callVi C [] [] okM_17.1 (ocell_7 okM_17.2.1) rfl q805 q26 (c_X7_look (vL E) (vG E)  _ _  hm) q803 q806 q72 md_X7_look (by omega) (by omega) rfl rfl (Nat.le_of_ble_eq_true rfl) dX7_sum_10 (fun v4 S3 hm => ?_)
    refine cf_bipush C dX7_sum_13 (v := 43) rfl ?_
    refine cf_icmp_eq C (tgt := 27) dX7_sum_15 (by decide) hm (fun hm => ?_) (fun hm => ?_)
    · exact w_J_X7_sum_27 C hr_X7_whole hr_X7_both hr_X7_compared hr_X7_sum hr_X7_product hr_X7_one hR ih _ hm
    · refine cf_aload_n C dX7_sum_18 rfl 0 rfl ?_
      refine cf_callVi C [] [] okM_17.1 (ocell_7 okM_17.2.1) rfl q805 q26 (c_X7_look (vL E) (vG E)  _ _  hm) q803 q806 q72 md_X7_look (by omega) (by omega) rfl rfl (Nat.le_of_ble_eq_true rfl) dX7_sum_19 (fun v12 S11 hm => ?_)
      refine cf_bipush C dX7_sum_22 (v := 45) rfl ?_
      refine cf_icmp_ne C (tgt := 60) dX7_sum_24 (by decide) hm (fun hm => ?_) (fun hm => ?_)
      · refine cf_iconst C dX7_sum_60 (v := 1) rfl ?_
        exact hR _ _ _ _ dX7_sum_61 (Or.inr rfl) hm
      · exact w_J_X7_sum_27 C hr_X7_whole hr_X7_both hr_X7_compared hr_X7_sum hr_X7_product hr_X7_one hR ih _ hm
def B_X7_sum (r_X7_whole : St → (Int32 → St → Prop) → Prop) (r_X7_both : St → (Int32 → St → Prop) → Prop) (r_X7_compared : St → (Int32 → St → Prop) → Prop) (r_X7_sum : St → (Int32 → St → Prop) → Prop) (r_X7_product : St → (Int32 → St → Prop) → Prop) (r_X7_one : St → (Int32 → St → Prop) → Prop)  (S : St) (Q : Int32 → St → Prop) : Prop := r_X7_product S (fun v2 S1 => if v2 = 0 then (Q 0 S1) else (∃ k, L_X7_sum_9 r_X7_whole r_X7_both r_X7_compared r_X7_sum r_X7_product r_X7_one Q k S1))
set_option maxRecDepth 20000 in
theorem cb_X7_sum (l : Launch) (G : GX) (D : Nat) {r_X7_whole : St → (Int32 → St → Prop) → Prop} {r_X7_both : St → (Int32 → St → Prop) → Prop} {r_X7_compared : St → (Int32 → St → Prop) → Prop} {r_X7_sum : St → (Int32 → St → Prop) → Prop} {r_X7_product : St → (Int32 → St → Prop) → Prop} {r_X7_one : St → (Int32 → St → Prop) → Prop} (hr_X7_whole : ∀  (S : St) (Q : Int32 → St → Prop), r_X7_whole  S Q → CTi l yX7_whole (Cond.code yX7_whole cX7_whole 1 (some .boolean) :: AW) { frames := D + 1, cells := 0, slots := 0, locals := 30 * D + 22 } G enM [.ref (adr G 17 0)] S Q) (hr_X7_both : ∀  (S : St) (Q : Int32 → St → Prop), r_X7_both  S Q → CTi l yX7_both (Cond.code yX7_both cX7_both 1 (some .boolean) :: AW) { frames := D + 1, cells := 0, slots := 0, locals := 30 * D + 22 } G enM [.ref (adr G 17 0)] S Q) (hr_X7_compared : ∀  (S : St) (Q : Int32 → St → Prop), r_X7_compared  S Q → CTi l yX7_compared (Cond.code yX7_compared cX7_compared 2 (some .boolean) :: AW) { frames := D + 1, cells := 0, slots := 0, locals := 30 * D + 22 } G enM [.ref (adr G 17 0)] S Q) (hr_X7_sum : ∀  (S : St) (Q : Int32 → St → Prop), r_X7_sum  S Q → CTi l yX7_sum (Cond.code yX7_sum cX7_sum 2 (some .boolean) :: AW) { frames := D + 1, cells := 0, slots := 0, locals := 30 * D + 22 } G enM [.ref (adr G 17 0)] S Q) (hr_X7_product : ∀  (S : St) (Q : Int32 → St → Prop), r_X7_product  S Q → CTi l yX7_product (Cond.code yX7_product cX7_product 2 (some .boolean) :: AW) { frames := D + 1, cells := 0, slots := 0, locals := 30 * D + 22 } G enM [.ref (adr G 17 0)] S Q) (hr_X7_one : ∀  (S : St) (Q : Int32 → St → Prop), r_X7_one  S Q → CTi l yX7_one (Cond.code yX7_one cX7_one 4 (some .boolean) :: AW) { frames := D + 1, cells := 0, slots := 0, locals := 30 * D + 22 } G enM [.ref (adr G 17 0)] S Q)  (S : St) (Q : Int32 → St → Prop)  (hm : B_X7_sum r_X7_whole r_X7_both r_X7_compared r_X7_sum r_X7_product r_X7_one  S Q) : CTi l yX7_sum (Cond.code yX7_sum cX7_sum 2 (some .boolean) :: AW) { frames := (D + 1 + 1), cells := 0, slots := 0, locals := (30 * (D + 1) + 22) } G enM [.ref (adr G 17 0)] S Q := by
  refine ct_start_z (by decide) enM_nd (Nat.le_of_ble_eq_true rfl) (fun E hG hl C hR => ?_)
  subst hG
  subst hl
  show CF E S 0 [(0, .ref (adr (vG E) 17 0))] []
  unfold B_X7_sum at hm
  refine cf_aload_n C dX7_sum_0 rfl 0 rfl ?_
  refine cf_callVi C [] [] okM_17.1 (ocell_7 okM_17.2.1) rfl q797 q24 (hr_X7_product  _ _  hm) q795 q798 q72 md_X7_product (by omega) (by omega) rfl rfl (Nat.le_of_ble_eq_true rfl) dX7_sum_1 (fun v2 S1 hm => ?_)
  refine cf_if_ne C (tgt := 9) dX7_sum_4 (by decide) hm (fun hm => ?_) (fun hm => ?_)
  · obtain ⟨k, hm⟩ := hm
    exact w_L_X7_sum_9 C hr_X7_whole hr_X7_both hr_X7_compared hr_X7_sum hr_X7_product hr_X7_one hR k _ hm
  · refine cf_iconst C dX7_sum_7 (v := 0) rfl ?_
    exact hR _ _ _ _ dX7_sum_8 (Or.inl rfl) hm
def J_X7_product_36  (r_X7_whole : St → (Int32 → St → Prop) → Prop) (r_X7_both : St → (Int32 → St → Prop) → Prop) (r_X7_compared : St → (Int32 → St → Prop) → Prop) (r_X7_sum : St → (Int32 → St → Prop) → Prop) (r_X7_product : St → (Int32 → St → Prop) → Prop) (r_X7_one : St → (Int32 → St → Prop) → Prop) (K9 : St → Prop) (Q : Int32 → St → Prop)  (S : St) : Prop := E_X7_look S (fun v6 S5 => nmS (stI S5 17 5 ((S5.1 17 5) + 1)) (fun S7 => r_X7_one S7 (fun v9 S8 => if v9 = 0 then (Q 0 S8) else (E_X7_step1 3 v6 S8 (fun S10 => K9 S10)))))
set_option maxRecDepth 20000 in
theorem w_J_X7_product_36 {E : EV} {Q : Int32 → St → Prop}  {r_X7_whole : St → (Int32 → St → Prop) → Prop} {r_X7_both : St → (Int32 → St → Prop) → Prop} {r_X7_compared : St → (Int32 → St → Prop) → Prop} {r_X7_sum : St → (Int32 → St → Prop) → Prop} {r_X7_product : St → (Int32 → St → Prop) → Prop} {r_X7_one : St → (Int32 → St → Prop) → Prop} {D : Nat} (C : CX E cX7_product RX7 2 enM (D + 1 + 1) (30 * (D + 1) + 22))  (hr_X7_whole : ∀  (S : St) (Q : Int32 → St → Prop), r_X7_whole  S Q → CTi (vL E) yX7_whole (Cond.code yX7_whole cX7_whole 1 (some .boolean) :: AW) { frames := D + 1, cells := 0, slots := 0, locals := 30 * D + 22 } (vG E) enM [.ref (adr (vG E) 17 0)] S Q) (hr_X7_both : ∀  (S : St) (Q : Int32 → St → Prop), r_X7_both  S Q → CTi (vL E) yX7_both (Cond.code yX7_both cX7_both 1 (some .boolean) :: AW) { frames := D + 1, cells := 0, slots := 0, locals := 30 * D + 22 } (vG E) enM [.ref (adr (vG E) 17 0)] S Q) (hr_X7_compared : ∀  (S : St) (Q : Int32 → St → Prop), r_X7_compared  S Q → CTi (vL E) yX7_compared (Cond.code yX7_compared cX7_compared 2 (some .boolean) :: AW) { frames := D + 1, cells := 0, slots := 0, locals := 30 * D + 22 } (vG E) enM [.ref (adr (vG E) 17 0)] S Q) (hr_X7_sum : ∀  (S : St) (Q : Int32 → St → Prop), r_X7_sum  S Q → CTi (vL E) yX7_sum (Cond.code yX7_sum cX7_sum 2 (some .boolean) :: AW) { frames := D + 1, cells := 0, slots := 0, locals := 30 * D + 22 } (vG E) enM [.ref (adr (vG E) 17 0)] S Q) (hr_X7_product : ∀  (S : St) (Q : Int32 → St → Prop), r_X7_product  S Q → CTi (vL E) yX7_product (Cond.code yX7_product cX7_product 2 (some .boolean) :: AW) { frames := D + 1, cells := 0, slots := 0, locals := 30 * D + 22 } (vG E) enM [.ref (adr (vG E) 17 0)] S Q) (hr_X7_one : ∀  (S : St) (Q : Int32 → St → Prop), r_X7_one  S Q → CTi (vL E) yX7_one (Cond.code yX7_one cX7_one 4 (some .boolean) :: AW) { frames := D + 1, cells := 0, slots := 0, locals := 30 * D + 22 } (vG E) enM [.ref (adr (vG E) 17 0)] S Q) (hR : RTz E cX7_product Q) {K9 : St → Prop} (hK9 : ∀  (S : St), K9  S → CF E S 9 [(0, .ref (adr (vG E) 17 0))] []) : ∀  (S : St), J_X7_product_36 r_X7_whole r_X7_both r_X7_compared r_X7_sum r_X7_product r_X7_one K9 Q  S → CF E S 36 [(0, .ref (adr (vG E) 17 0))] [] := by
  intro S hm
  unfold J_X7_product_36 at hm
  refine cf_aload_n C dX7_product_36 rfl 0 rfl ?_
  refine cf_callVi C [] [] okM_17.1 (ocell_7 okM_17.2.1) rfl q805 q26 (c_X7_look (vL E) (vG E)  _ _  hm) q803 q806 q72 md_X7_look (by omega) (by omega) rfl rfl (Nat.le_of_ble_eq_true rfl) dX7_product_37 (fun v6 S5 hm => ?_)
  refine cf_istore_n C (L1 := [(1, .int v6), (0, .ref (adr (vG E) 17 0))]) dX7_product_40 rfl (by decide) rfl ?_
  refine cf_aload_n C dX7_product_41 rfl 1 rfl ?_
  refine cf_dup C dX7_product_42 rfl ?_
  refine gf_7_5 C inX7 okM_17 q699 dX7_product_43 ?_
  refine cf_iconst C dX7_product_46 (v := 1) rfl ?_
  refine cf_iadd C dX7_product_47 ?_
  refine pf_7_5 C inX7 okM_17 q699 dX7_product_48 ?_
  refine cf_nmS hm (fun S7 hm => ?_)
  refine cf_aload_n C dX7_product_51 rfl 1 rfl ?_
  refine cf_callVi C [] [] okM_17.1 (ocell_7 okM_17.2.1) rfl q801 q25 (hr_X7_one  _ _  hm) q799 q802 q72 md_X7_one (by omega) (by omega) rfl rfl (Nat.le_of_ble_eq_true rfl) dX7_product_52 (fun v9 S8 hm => ?_)
  refine cf_if_ne C (tgt := 60) dX7_product_55 (by decide) hm (fun hm => ?_) (fun hm => ?_)
  · refine cf_aload_n C dX7_product_60 rfl 1 rfl ?_
    refine cf_iconst C dX7_product_61 (v := 3) rfl ?_
    refine cf_iload_n C dX7_product_62 rfl 0 rfl ?_
    refine cf_callVv C [.int 3, .int v6] [] okM_17.1 (ocell_7 okM_17.2.1) rfl q813 q28 (c_X7_step1 (vL E) (vG E) 3 v6 _ _  hm) q811 q814 q72 md_X7_step1 (by omega) (by omega) rfl rfl (Nat.le_of_ble_eq_true rfl) dX7_product_63 (fun S10 hm => ?_)
    refine cf_goto C (tgt := 9) dX7_product_66 (by decide) ?_
    refine cf_sub C [1] rfl ?_
    exact hK9 _ hm
  · refine cf_iconst C dX7_product_58 (v := 0) rfl ?_
    exact hR _ _ _ _ dX7_product_59 (Or.inl rfl) hm
def L_X7_product_9  (r_X7_whole : St → (Int32 → St → Prop) → Prop) (r_X7_both : St → (Int32 → St → Prop) → Prop) (r_X7_compared : St → (Int32 → St → Prop) → Prop) (r_X7_sum : St → (Int32 → St → Prop) → Prop) (r_X7_product : St → (Int32 → St → Prop) → Prop) (r_X7_one : St → (Int32 → St → Prop) → Prop)  (Q : Int32 → St → Prop) : Nat → St → Prop
  | 0 => fun _ => False
  | n + 1 => fun S => E_X7_look S (fun v4 S3 => if v4 = 42 then (J_X7_product_36 r_X7_whole r_X7_both r_X7_compared r_X7_sum r_X7_product r_X7_one (L_X7_product_9 r_X7_whole r_X7_both r_X7_compared r_X7_sum r_X7_product r_X7_one Q n) Q S3) else (E_X7_look S3 (fun v12 S11 => if v12 = 47 then (J_X7_product_36 r_X7_whole r_X7_both r_X7_compared r_X7_sum r_X7_product r_X7_one (L_X7_product_9 r_X7_whole r_X7_both r_X7_compared r_X7_sum r_X7_product r_X7_one Q n) Q S11) else (E_X7_look S11 (fun v14 S13 => if v14 = 37 then (J_X7_product_36 r_X7_whole r_X7_both r_X7_compared r_X7_sum r_X7_product r_X7_one (L_X7_product_9 r_X7_whole r_X7_both r_X7_compared r_X7_sum r_X7_product r_X7_one Q n) Q S13) else (Q 1 S13))))))
set_option maxRecDepth 20000 in
theorem w_L_X7_product_9 {E : EV} {Q : Int32 → St → Prop}  {r_X7_whole : St → (Int32 → St → Prop) → Prop} {r_X7_both : St → (Int32 → St → Prop) → Prop} {r_X7_compared : St → (Int32 → St → Prop) → Prop} {r_X7_sum : St → (Int32 → St → Prop) → Prop} {r_X7_product : St → (Int32 → St → Prop) → Prop} {r_X7_one : St → (Int32 → St → Prop) → Prop} {D : Nat} (C : CX E cX7_product RX7 2 enM (D + 1 + 1) (30 * (D + 1) + 22))  (hr_X7_whole : ∀  (S : St) (Q : Int32 → St → Prop), r_X7_whole  S Q → CTi (vL E) yX7_whole (Cond.code yX7_whole cX7_whole 1 (some .boolean) :: AW) { frames := D + 1, cells := 0, slots := 0, locals := 30 * D + 22 } (vG E) enM [.ref (adr (vG E) 17 0)] S Q) (hr_X7_both : ∀  (S : St) (Q : Int32 → St → Prop), r_X7_both  S Q → CTi (vL E) yX7_both (Cond.code yX7_both cX7_both 1 (some .boolean) :: AW) { frames := D + 1, cells := 0, slots := 0, locals := 30 * D + 22 } (vG E) enM [.ref (adr (vG E) 17 0)] S Q) (hr_X7_compared : ∀  (S : St) (Q : Int32 → St → Prop), r_X7_compared  S Q → CTi (vL E) yX7_compared (Cond.code yX7_compared cX7_compared 2 (some .boolean) :: AW) { frames := D + 1, cells := 0, slots := 0, locals := 30 * D + 22 } (vG E) enM [.ref (adr (vG E) 17 0)] S Q) (hr_X7_sum : ∀  (S : St) (Q : Int32 → St → Prop), r_X7_sum  S Q → CTi (vL E) yX7_sum (Cond.code yX7_sum cX7_sum 2 (some .boolean) :: AW) { frames := D + 1, cells := 0, slots := 0, locals := 30 * D + 22 } (vG E) enM [.ref (adr (vG E) 17 0)] S Q) (hr_X7_product : ∀  (S : St) (Q : Int32 → St → Prop), r_X7_product  S Q → CTi (vL E) yX7_product (Cond.code yX7_product cX7_product 2 (some .boolean) :: AW) { frames := D + 1, cells := 0, slots := 0, locals := 30 * D + 22 } (vG E) enM [.ref (adr (vG E) 17 0)] S Q) (hr_X7_one : ∀  (S : St) (Q : Int32 → St → Prop), r_X7_one  S Q → CTi (vL E) yX7_one (Cond.code yX7_one cX7_one 4 (some .boolean) :: AW) { frames := D + 1, cells := 0, slots := 0, locals := 30 * D + 22 } (vG E) enM [.ref (adr (vG E) 17 0)] S Q) (hR : RTz E cX7_product Q) : ∀ (n : Nat)  (S : St), L_X7_product_9 r_X7_whole r_X7_both r_X7_compared r_X7_sum r_X7_product r_X7_one Q n  S → CF E S 9 [(0, .ref (adr (vG E) 17 0))] [] := by
  intro n
  induction n with
  | zero =>
    intro S hm
    exact hm.elim
  | succ n ih =>
    intro S hm
    unfold L_X7_product_9 at hm
    refine cf_aload_n C dX7_product_9 rfl 0 rfl ?_
    refine cf_callVi C [] [] okM_17.1 (ocell_7 okM_17.2.1) rfl q805 q26 (c_X7_look (vL E) (vG E)  _ _  hm) q803 q806 q72 md_X7_look (by omega) (by omega) rfl rfl (Nat.le_of_ble_eq_true rfl) dX7_product_10 (fun v4 S3 hm => ?_)
    refine cf_bipush C dX7_product_13 (v := 42) rfl ?_
    refine cf_icmp_eq C (tgt := 36) dX7_product_15 (by decide) hm (fun hm => ?_) (fun hm => ?_)
    · exact w_J_X7_product_36 C hr_X7_whole hr_X7_both hr_X7_compared hr_X7_sum hr_X7_product hr_X7_one hR ih _ hm
    · refine cf_aload_n C dX7_product_18 rfl 0 rfl ?_
      refine cf_callVi C [] [] okM_17.1 (ocell_7 okM_17.2.1) rfl q805 q26 (c_X7_look (vL E) (vG E)  _ _  hm) q803 q806 q72 md_X7_look (by omega) (by omega) rfl rfl (Nat.le_of_ble_eq_true rfl) dX7_product_19 (fun v12 S11 hm => ?_)
      refine cf_bipush C dX7_product_22 (v := 47) rfl ?_
      refine cf_icmp_eq C (tgt := 36) dX7_product_24 (by decide) hm (fun hm => ?_) (fun hm => ?_)
      · exact w_J_X7_product_36 C hr_X7_whole hr_X7_both hr_X7_compared hr_X7_sum hr_X7_product hr_X7_one hR ih _ hm
      · refine cf_aload_n C dX7_product_27 rfl 0 rfl ?_
        refine cf_callVi C [] [] okM_17.1 (ocell_7 okM_17.2.1) rfl q805 q26 (c_X7_look (vL E) (vG E)  _ _  hm) q803 q806 q72 md_X7_look (by omega) (by omega) rfl rfl (Nat.le_of_ble_eq_true rfl) dX7_product_28 (fun v14 S13 hm => ?_)
        refine cf_bipush C dX7_product_31 (v := 37) rfl ?_
        refine cf_icmp_ne C (tgt := 69) dX7_product_33 (by decide) hm (fun hm => ?_) (fun hm => ?_)
        · refine cf_iconst C dX7_product_69 (v := 1) rfl ?_
          exact hR _ _ _ _ dX7_product_70 (Or.inr rfl) hm
        · exact w_J_X7_product_36 C hr_X7_whole hr_X7_both hr_X7_compared hr_X7_sum hr_X7_product hr_X7_one hR ih _ hm
def B_X7_product (r_X7_whole : St → (Int32 → St → Prop) → Prop) (r_X7_both : St → (Int32 → St → Prop) → Prop) (r_X7_compared : St → (Int32 → St → Prop) → Prop) (r_X7_sum : St → (Int32 → St → Prop) → Prop) (r_X7_product : St → (Int32 → St → Prop) → Prop) (r_X7_one : St → (Int32 → St → Prop) → Prop)  (S : St) (Q : Int32 → St → Prop) : Prop := r_X7_one S (fun v2 S1 => if v2 = 0 then (Q 0 S1) else (∃ k, L_X7_product_9 r_X7_whole r_X7_both r_X7_compared r_X7_sum r_X7_product r_X7_one Q k S1))
set_option maxRecDepth 20000 in
theorem cb_X7_product (l : Launch) (G : GX) (D : Nat) {r_X7_whole : St → (Int32 → St → Prop) → Prop} {r_X7_both : St → (Int32 → St → Prop) → Prop} {r_X7_compared : St → (Int32 → St → Prop) → Prop} {r_X7_sum : St → (Int32 → St → Prop) → Prop} {r_X7_product : St → (Int32 → St → Prop) → Prop} {r_X7_one : St → (Int32 → St → Prop) → Prop} (hr_X7_whole : ∀  (S : St) (Q : Int32 → St → Prop), r_X7_whole  S Q → CTi l yX7_whole (Cond.code yX7_whole cX7_whole 1 (some .boolean) :: AW) { frames := D + 1, cells := 0, slots := 0, locals := 30 * D + 22 } G enM [.ref (adr G 17 0)] S Q) (hr_X7_both : ∀  (S : St) (Q : Int32 → St → Prop), r_X7_both  S Q → CTi l yX7_both (Cond.code yX7_both cX7_both 1 (some .boolean) :: AW) { frames := D + 1, cells := 0, slots := 0, locals := 30 * D + 22 } G enM [.ref (adr G 17 0)] S Q) (hr_X7_compared : ∀  (S : St) (Q : Int32 → St → Prop), r_X7_compared  S Q → CTi l yX7_compared (Cond.code yX7_compared cX7_compared 2 (some .boolean) :: AW) { frames := D + 1, cells := 0, slots := 0, locals := 30 * D + 22 } G enM [.ref (adr G 17 0)] S Q) (hr_X7_sum : ∀  (S : St) (Q : Int32 → St → Prop), r_X7_sum  S Q → CTi l yX7_sum (Cond.code yX7_sum cX7_sum 2 (some .boolean) :: AW) { frames := D + 1, cells := 0, slots := 0, locals := 30 * D + 22 } G enM [.ref (adr G 17 0)] S Q) (hr_X7_product : ∀  (S : St) (Q : Int32 → St → Prop), r_X7_product  S Q → CTi l yX7_product (Cond.code yX7_product cX7_product 2 (some .boolean) :: AW) { frames := D + 1, cells := 0, slots := 0, locals := 30 * D + 22 } G enM [.ref (adr G 17 0)] S Q) (hr_X7_one : ∀  (S : St) (Q : Int32 → St → Prop), r_X7_one  S Q → CTi l yX7_one (Cond.code yX7_one cX7_one 4 (some .boolean) :: AW) { frames := D + 1, cells := 0, slots := 0, locals := 30 * D + 22 } G enM [.ref (adr G 17 0)] S Q)  (S : St) (Q : Int32 → St → Prop)  (hm : B_X7_product r_X7_whole r_X7_both r_X7_compared r_X7_sum r_X7_product r_X7_one  S Q) : CTi l yX7_product (Cond.code yX7_product cX7_product 2 (some .boolean) :: AW) { frames := (D + 1 + 1), cells := 0, slots := 0, locals := (30 * (D + 1) + 22) } G enM [.ref (adr G 17 0)] S Q := by
  refine ct_start_z (by decide) enM_nd (Nat.le_of_ble_eq_true rfl) (fun E hG hl C hR => ?_)
  subst hG
  subst hl
  show CF E S 0 [(0, .ref (adr (vG E) 17 0))] []
  unfold B_X7_product at hm
  refine cf_aload_n C dX7_product_0 rfl 0 rfl ?_
  refine cf_callVi C [] [] okM_17.1 (ocell_7 okM_17.2.1) rfl q801 q25 (hr_X7_one  _ _  hm) q799 q802 q72 md_X7_one (by omega) (by omega) rfl rfl (Nat.le_of_ble_eq_true rfl) dX7_product_1 (fun v2 S1 hm => ?_)
  refine cf_if_ne C (tgt := 9) dX7_product_4 (by decide) hm (fun hm => ?_) (fun hm => ?_)
  · obtain ⟨k, hm⟩ := hm
    exact w_L_X7_product_9 C hr_X7_whole hr_X7_both hr_X7_compared hr_X7_sum hr_X7_product hr_X7_one hR k _ hm
  · refine cf_iconst C dX7_product_7 (v := 0) rfl ?_
    exact hR _ _ _ _ dX7_product_8 (Or.inl rfl) hm
def L_X7_one_46  (r_X7_whole : St → (Int32 → St → Prop) → Prop) (r_X7_both : St → (Int32 → St → Prop) → Prop) (r_X7_compared : St → (Int32 → St → Prop) → Prop) (r_X7_sum : St → (Int32 → St → Prop) → Prop) (r_X7_product : St → (Int32 → St → Prop) → Prop) (r_X7_one : St → (Int32 → St → Prop) → Prop)  (Q : Int32 → St → Prop) : Nat → Int32 → Int32 → St → Prop
  | 0 => fun _ _ _ => False
  | n + 1 => fun x2 x3 S => if 4 ≤ x3 then (E_X7_step1 0 x2 S (fun S21 => Q 1 S21)) else (E_X7_look S (fun v23 S22 => E_X7_in v23 48 57 S22 (fun v25 S24 => if v25 = 0 then (E_X7_step1 0 x2 S24 (fun S26 => Q 1 S26)) else (E_X7_look S24 (fun v28 S27 => nmI (((10 * x2) + v28) - 48) (fun v29 => nmS (stI S27 17 5 ((S27.1 17 5) + 1)) (fun S30 => nmI (x3 + 1) (fun v31 => L_X7_one_46 r_X7_whole r_X7_both r_X7_compared r_X7_sum r_X7_product r_X7_one Q n v29 v31 S30))))))))
set_option maxRecDepth 20000 in
theorem w_L_X7_one_46 {E : EV} {Q : Int32 → St → Prop}  {r_X7_whole : St → (Int32 → St → Prop) → Prop} {r_X7_both : St → (Int32 → St → Prop) → Prop} {r_X7_compared : St → (Int32 → St → Prop) → Prop} {r_X7_sum : St → (Int32 → St → Prop) → Prop} {r_X7_product : St → (Int32 → St → Prop) → Prop} {r_X7_one : St → (Int32 → St → Prop) → Prop} {D : Nat} (C : CX E cX7_one RX7 4 enM (D + 1 + 1) (30 * (D + 1) + 22))  (hr_X7_whole : ∀  (S : St) (Q : Int32 → St → Prop), r_X7_whole  S Q → CTi (vL E) yX7_whole (Cond.code yX7_whole cX7_whole 1 (some .boolean) :: AW) { frames := D + 1, cells := 0, slots := 0, locals := 30 * D + 22 } (vG E) enM [.ref (adr (vG E) 17 0)] S Q) (hr_X7_both : ∀  (S : St) (Q : Int32 → St → Prop), r_X7_both  S Q → CTi (vL E) yX7_both (Cond.code yX7_both cX7_both 1 (some .boolean) :: AW) { frames := D + 1, cells := 0, slots := 0, locals := 30 * D + 22 } (vG E) enM [.ref (adr (vG E) 17 0)] S Q) (hr_X7_compared : ∀  (S : St) (Q : Int32 → St → Prop), r_X7_compared  S Q → CTi (vL E) yX7_compared (Cond.code yX7_compared cX7_compared 2 (some .boolean) :: AW) { frames := D + 1, cells := 0, slots := 0, locals := 30 * D + 22 } (vG E) enM [.ref (adr (vG E) 17 0)] S Q) (hr_X7_sum : ∀  (S : St) (Q : Int32 → St → Prop), r_X7_sum  S Q → CTi (vL E) yX7_sum (Cond.code yX7_sum cX7_sum 2 (some .boolean) :: AW) { frames := D + 1, cells := 0, slots := 0, locals := 30 * D + 22 } (vG E) enM [.ref (adr (vG E) 17 0)] S Q) (hr_X7_product : ∀  (S : St) (Q : Int32 → St → Prop), r_X7_product  S Q → CTi (vL E) yX7_product (Cond.code yX7_product cX7_product 2 (some .boolean) :: AW) { frames := D + 1, cells := 0, slots := 0, locals := 30 * D + 22 } (vG E) enM [.ref (adr (vG E) 17 0)] S Q) (hr_X7_one : ∀  (S : St) (Q : Int32 → St → Prop), r_X7_one  S Q → CTi (vL E) yX7_one (Cond.code yX7_one cX7_one 4 (some .boolean) :: AW) { frames := D + 1, cells := 0, slots := 0, locals := 30 * D + 22 } (vG E) enM [.ref (adr (vG E) 17 0)] S Q) (hR : RTz E cX7_one Q) : ∀ (n : Nat) (x2 : Int32) (x3 : Int32) (S : St), L_X7_one_46 r_X7_whole r_X7_both r_X7_compared r_X7_sum r_X7_product r_X7_one Q n x2 x3 S → CF E S 46 [(0, .ref (adr (vG E) 17 0)), (2, .int x2), (3, .int x3)] [] := by
  intro n
  induction n with
  | zero =>
    intro x2 x3 S hm
    exact hm.elim
  | succ n ih =>
    intro x2 x3 S hm
    unfold L_X7_one_46 at hm
    refine cf_iload_n C dX7_one_46 rfl 2 rfl ?_
    refine cf_iconst C dX7_one_47 (v := 4) rfl ?_
    refine cf_icmp_ge C (tgt := 94) dX7_one_48 (by decide) hm (fun hm => ?_) (fun hm => ?_)
    · refine cf_aload_n C dX7_one_94 rfl 0 rfl ?_
      refine cf_iconst C dX7_one_95 (v := 0) rfl ?_
      refine cf_iload_n C dX7_one_96 rfl 1 rfl ?_
      refine cf_callVv C [.int 0, .int x2] [] okM_17.1 (ocell_7 okM_17.2.1) rfl q813 q28 (c_X7_step1 (vL E) (vG E) 0 x2 _ _  hm) q811 q814 q72 md_X7_step1 (by omega) (by omega) rfl rfl (Nat.le_of_ble_eq_true rfl) dX7_one_97 (fun S21 hm => ?_)
      refine cf_iconst C dX7_one_100 (v := 1) rfl ?_
      exact hR _ _ _ _ dX7_one_101 (Or.inr rfl) hm
    · refine cf_aload_n C dX7_one_51 rfl 0 rfl ?_
      refine cf_callVi C [] [] okM_17.1 (ocell_7 okM_17.2.1) rfl q805 q26 (c_X7_look (vL E) (vG E)  _ _  hm) q803 q806 q72 md_X7_look (by omega) (by omega) rfl rfl (Nat.le_of_ble_eq_true rfl) dX7_one_52 (fun v23 S22 hm => ?_)
      refine cf_bipush C dX7_one_55 (v := 48) rfl ?_
      refine cf_bipush C dX7_one_57 (v := 57) rfl ?_
      refine cf_callSi C [.int v23, .int 48, .int 57] [] q767 (c_X7_in (vL E) (vG E) v23 48 57 _ _  hm) q766 q768 q72 md_X7_in (by omega) (by omega) rfl rfl (Nat.le_of_ble_eq_true rfl) dX7_one_59 (fun v25 S24 hm => ?_)
      refine cf_if_eq C (tgt := 94) dX7_one_62 (by decide) hm (fun hm => ?_) (fun hm => ?_)
      · refine cf_aload_n C dX7_one_94 rfl 0 rfl ?_
        refine cf_iconst C dX7_one_95 (v := 0) rfl ?_
        refine cf_iload_n C dX7_one_96 rfl 1 rfl ?_
        refine cf_callVv C [.int 0, .int x2] [] okM_17.1 (ocell_7 okM_17.2.1) rfl q813 q28 (c_X7_step1 (vL E) (vG E) 0 x2 _ _  hm) q811 q814 q72 md_X7_step1 (by omega) (by omega) rfl rfl (Nat.le_of_ble_eq_true rfl) dX7_one_97 (fun S26 hm => ?_)
        refine cf_iconst C dX7_one_100 (v := 1) rfl ?_
        exact hR _ _ _ _ dX7_one_101 (Or.inr rfl) hm
      · refine cf_bipush C dX7_one_65 (v := 10) rfl ?_
        refine cf_iload_n C dX7_one_67 rfl 1 rfl ?_
        refine cf_imul C dX7_one_68 ?_
        refine cf_aload_n C dX7_one_69 rfl 0 rfl ?_
        refine cf_callVi C [] [.int (10 * x2)] okM_17.1 (ocell_7 okM_17.2.1) rfl q805 q26 (c_X7_look (vL E) (vG E)  _ _  hm) q803 q806 q72 md_X7_look (by omega) (by omega) rfl rfl (Nat.le_of_ble_eq_true rfl) dX7_one_70 (fun v28 S27 hm => ?_)
        refine cf_iadd C dX7_one_73 ?_
        refine cf_bipush C dX7_one_74 (v := 48) rfl ?_
        refine cf_isub C dX7_one_76 ?_
        refine cf_nmI hm (fun v29 hm => ?_)
        refine cf_istore_n C (L1 := [(2, .int v29), (0, .ref (adr (vG E) 17 0)), (3, .int x3)]) dX7_one_77 rfl (by decide) rfl ?_
        refine cf_aload_n C dX7_one_78 rfl 1 rfl ?_
        refine cf_dup C dX7_one_79 rfl ?_
        refine gf_7_5 C inX7 okM_17 q699 dX7_one_80 ?_
        refine cf_iconst C dX7_one_83 (v := 1) rfl ?_
        refine cf_iadd C dX7_one_84 ?_
        refine pf_7_5 C inX7 okM_17 q699 dX7_one_85 ?_
        refine cf_nmS hm (fun S30 hm => ?_)
        refine cf_iincN C (L1 := fun v31 => [(3, .int v31), (2, .int v29), (0, .ref (adr (vG E) 17 0))]) dX7_one_88 2 rfl rfl (by decide) (fun _ => rfl) hm (fun v31 hm => ?_)
        refine cf_goto C (tgt := 46) dX7_one_91 (by decide) ?_
        refine cf_sub C [2, 1, 0] rfl ?_
        exact ih v29 v31 _ hm
def B_X7_one (r_X7_whole : St → (Int32 → St → Prop) → Prop) (r_X7_both : St → (Int32 → St → Prop) → Prop) (r_X7_compared : St → (Int32 → St → Prop) → Prop) (r_X7_sum : St → (Int32 → St → Prop) → Prop) (r_X7_product : St → (Int32 → St → Prop) → Prop) (r_X7_one : St → (Int32 → St → Prop) → Prop)  (S : St) (Q : Int32 → St → Prop) : Prop := E_X7_look S (fun v2 S1 => E_X7_isName v2 S1 (fun v4 S3 => if v4 = 0 then (E_X7_in v2 48 57 S3 (fun v6 S5 => if v6 = 0 then (if v2 = 33 then (E_X7_opens S5 (fun v16 S15 => if v16 = 0 then (Q 0 S15) else (r_X7_one S15 (fun v18 S17 => if v18 = 0 then (Q 0 S17) else (nmS (stI S17 17 6 ((S17.1 17 6) - 1)) (fun S19 => E_X7_step1 2 0 S19 (fun S20 => Q 1 S20))))))) else (if v2 = 40 then (E_X7_opens S5 (fun v8 S7 => if v8 = 0 then (Q 0 S7) else (r_X7_whole S7 (fun v10 S9 => if v10 = 0 then (Q 0 S9) else (E_X7_look S9 (fun v12 S11 => if v12 = 41 then (nmS (stI S11 17 5 ((S11.1 17 5) + 1)) (fun S13 => nmS (stI S13 17 6 ((S13.1 17 6) - 1)) (fun S14 => Q 1 S14))) else (Q 0 S11))))))) else (Q 0 S5))) else (∃ k, L_X7_one_46 r_X7_whole r_X7_both r_X7_compared r_X7_sum r_X7_product r_X7_one Q k 0 0 S5))) else (nmS (stI S3 17 5 ((S3.1 17 5) + 1)) (fun S32 => E_X7_step1 1 v2 S32 (fun S33 => Q 1 S33)))))
set_option maxRecDepth 20000 in
theorem cb_X7_one (l : Launch) (G : GX) (D : Nat) {r_X7_whole : St → (Int32 → St → Prop) → Prop} {r_X7_both : St → (Int32 → St → Prop) → Prop} {r_X7_compared : St → (Int32 → St → Prop) → Prop} {r_X7_sum : St → (Int32 → St → Prop) → Prop} {r_X7_product : St → (Int32 → St → Prop) → Prop} {r_X7_one : St → (Int32 → St → Prop) → Prop} (hr_X7_whole : ∀  (S : St) (Q : Int32 → St → Prop), r_X7_whole  S Q → CTi l yX7_whole (Cond.code yX7_whole cX7_whole 1 (some .boolean) :: AW) { frames := D + 1, cells := 0, slots := 0, locals := 30 * D + 22 } G enM [.ref (adr G 17 0)] S Q) (hr_X7_both : ∀  (S : St) (Q : Int32 → St → Prop), r_X7_both  S Q → CTi l yX7_both (Cond.code yX7_both cX7_both 1 (some .boolean) :: AW) { frames := D + 1, cells := 0, slots := 0, locals := 30 * D + 22 } G enM [.ref (adr G 17 0)] S Q) (hr_X7_compared : ∀  (S : St) (Q : Int32 → St → Prop), r_X7_compared  S Q → CTi l yX7_compared (Cond.code yX7_compared cX7_compared 2 (some .boolean) :: AW) { frames := D + 1, cells := 0, slots := 0, locals := 30 * D + 22 } G enM [.ref (adr G 17 0)] S Q) (hr_X7_sum : ∀  (S : St) (Q : Int32 → St → Prop), r_X7_sum  S Q → CTi l yX7_sum (Cond.code yX7_sum cX7_sum 2 (some .boolean) :: AW) { frames := D + 1, cells := 0, slots := 0, locals := 30 * D + 22 } G enM [.ref (adr G 17 0)] S Q) (hr_X7_product : ∀  (S : St) (Q : Int32 → St → Prop), r_X7_product  S Q → CTi l yX7_product (Cond.code yX7_product cX7_product 2 (some .boolean) :: AW) { frames := D + 1, cells := 0, slots := 0, locals := 30 * D + 22 } G enM [.ref (adr G 17 0)] S Q) (hr_X7_one : ∀  (S : St) (Q : Int32 → St → Prop), r_X7_one  S Q → CTi l yX7_one (Cond.code yX7_one cX7_one 4 (some .boolean) :: AW) { frames := D + 1, cells := 0, slots := 0, locals := 30 * D + 22 } G enM [.ref (adr G 17 0)] S Q)  (S : St) (Q : Int32 → St → Prop)  (hm : B_X7_one r_X7_whole r_X7_both r_X7_compared r_X7_sum r_X7_product r_X7_one  S Q) : CTi l yX7_one (Cond.code yX7_one cX7_one 4 (some .boolean) :: AW) { frames := (D + 1 + 1), cells := 0, slots := 0, locals := (30 * (D + 1) + 22) } G enM [.ref (adr G 17 0)] S Q := by
  refine ct_start_z (by decide) enM_nd (Nat.le_of_ble_eq_true rfl) (fun E hG hl C hR => ?_)
  subst hG
  subst hl
  show CF E S 0 [(0, .ref (adr (vG E) 17 0))] []
  unfold B_X7_one at hm
  refine cf_aload_n C dX7_one_0 rfl 0 rfl ?_
  refine cf_callVi C [] [] okM_17.1 (ocell_7 okM_17.2.1) rfl q805 q26 (c_X7_look (vL E) (vG E)  _ _  hm) q803 q806 q72 md_X7_look (by omega) (by omega) rfl rfl (Nat.le_of_ble_eq_true rfl) dX7_one_1 (fun v2 S1 hm => ?_)
  refine cf_istore_n C (L1 := [(1, .int v2), (0, .ref (adr (vG E) 17 0))]) dX7_one_4 rfl (by decide) rfl ?_
  refine cf_aload_n C dX7_one_5 rfl 1 rfl ?_
  refine cf_iload_n C dX7_one_6 rfl 0 rfl ?_
  refine cf_callVi C [.int v2] [] okM_17.1 (ocell_7 okM_17.2.1) rfl q809 q27 (c_X7_isName (vL E) (vG E) v2 _ _  hm) q807 q810 q72 md_X7_isName (by omega) (by omega) rfl rfl (Nat.le_of_ble_eq_true rfl) dX7_one_7 (fun v4 S3 hm => ?_)
  refine cf_if_eq C (tgt := 31) dX7_one_10 (by decide) hm (fun hm => ?_) (fun hm => ?_)
  · refine cf_iload_n C dX7_one_31 rfl 0 rfl ?_
    refine cf_bipush C dX7_one_32 (v := 48) rfl ?_
    refine cf_bipush C dX7_one_34 (v := 57) rfl ?_
    refine cf_callSi C [.int v2, .int 48, .int 57] [] q767 (c_X7_in (vL E) (vG E) v2 48 57 _ _  hm) q766 q768 q72 md_X7_in (by omega) (by omega) rfl rfl (Nat.le_of_ble_eq_true rfl) dX7_one_36 (fun v6 S5 hm => ?_)
    refine cf_if_eq C (tgt := 102) dX7_one_39 (by decide) hm (fun hm => ?_) (fun hm => ?_)
    · refine cf_iload_n C dX7_one_102 rfl 0 rfl ?_
      refine cf_bipush C dX7_one_103 (v := 33) rfl ?_
      refine cf_icmp_ne C (tgt := 142) dX7_one_105 (by decide) hm (fun hm => ?_) (fun hm => ?_)
      · refine cf_iload_n C dX7_one_142 rfl 0 rfl ?_
        refine cf_bipush C dX7_one_143 (v := 40) rfl ?_
        refine cf_icmp_ne C (tgt := 171) dX7_one_145 (by decide) hm (fun hm => ?_) (fun hm => ?_)
        · refine cf_iconst C dX7_one_171 (v := 0) rfl ?_
          exact hR _ _ _ _ dX7_one_172 (Or.inl rfl) hm
        · refine cf_aload_n C dX7_one_148 rfl 1 rfl ?_
          refine cf_callVi C [] [] okM_17.1 (ocell_7 okM_17.2.1) rfl q817 q29 (c_X7_opens (vL E) (vG E)  _ _  hm) q815 q818 q72 md_X7_opens (by omega) (by omega) rfl rfl (Nat.le_of_ble_eq_true rfl) dX7_one_149 (fun v8 S7 hm => ?_)
          refine cf_if_eq C (tgt := 171) dX7_one_152 (by decide) hm (fun hm => ?_) (fun hm => ?_)
          · refine cf_iconst C dX7_one_171 (v := 0) rfl ?_
            exact hR _ _ _ _ dX7_one_172 (Or.inl rfl) hm
          · refine cf_aload_n C dX7_one_155 rfl 1 rfl ?_
            refine cf_callVi C [] [] okM_17.1 (ocell_7 okM_17.2.1) rfl q781 q20 (hr_X7_whole  _ _  hm) q779 q782 q72 md_X7_whole (by omega) (by omega) rfl rfl (Nat.le_of_ble_eq_true rfl) dX7_one_156 (fun v10 S9 hm => ?_)
            refine cf_if_eq C (tgt := 171) dX7_one_159 (by decide) hm (fun hm => ?_) (fun hm => ?_)
            · refine cf_iconst C dX7_one_171 (v := 0) rfl ?_
              exact hR _ _ _ _ dX7_one_172 (Or.inl rfl) hm
            · refine cf_aload_n C dX7_one_162 rfl 1 rfl ?_
              refine cf_callVi C [] [] okM_17.1 (ocell_7 okM_17.2.1) rfl q805 q26 (c_X7_look (vL E) (vG E)  _ _  hm) q803 q806 q72 md_X7_look (by omega) (by omega) rfl rfl (Nat.le_of_ble_eq_true rfl) dX7_one_163 (fun v12 S11 hm => ?_)
              refine cf_bipush C dX7_one_166 (v := 41) rfl ?_
              refine cf_icmp_eq C (tgt := 173) dX7_one_168 (by decide) hm (fun hm => ?_) (fun hm => ?_)
              · refine cf_aload_n C dX7_one_173 rfl 1 rfl ?_
                refine cf_dup C dX7_one_174 rfl ?_
                refine gf_7_5 C inX7 okM_17 q699 dX7_one_175 ?_
                refine cf_iconst C dX7_one_178 (v := 1) rfl ?_
                refine cf_iadd C dX7_one_179 ?_
                refine pf_7_5 C inX7 okM_17 q699 dX7_one_180 ?_
                refine cf_nmS hm (fun S13 hm => ?_)
                refine cf_aload_n C dX7_one_183 rfl 1 rfl ?_
                refine cf_dup C dX7_one_184 rfl ?_
                refine gf_7_6 C inX7 okM_17 q700 dX7_one_185 ?_
                refine cf_iconst C dX7_one_188 (v := 1) rfl ?_
                refine cf_isub C dX7_one_189 ?_
                refine pf_7_6 C inX7 okM_17 q700 dX7_one_190 ?_
                refine cf_nmS hm (fun S14 hm => ?_)
                refine cf_iconst C dX7_one_193 (v := 1) rfl ?_
                exact hR _ _ _ _ dX7_one_194 (Or.inr rfl) hm
              · refine cf_iconst C dX7_one_171 (v := 0) rfl ?_
                exact hR _ _ _ _ dX7_one_172 (Or.inl rfl) hm
      · refine cf_aload_n C dX7_one_108 rfl 1 rfl ?_
        refine cf_callVi C [] [] okM_17.1 (ocell_7 okM_17.2.1) rfl q817 q29 (c_X7_opens (vL E) (vG E)  _ _  hm) q815 q818 q72 md_X7_opens (by omega) (by omega) rfl rfl (Nat.le_of_ble_eq_true rfl) dX7_one_109 (fun v16 S15 hm => ?_)
        refine cf_if_eq C (tgt := 122) dX7_one_112 (by decide) hm (fun hm => ?_) (fun hm => ?_)
        · refine cf_iconst C dX7_one_122 (v := 0) rfl ?_
          exact hR _ _ _ _ dX7_one_123 (Or.inl rfl) hm
        · refine cf_aload_n C dX7_one_115 rfl 1 rfl ?_
          refine cf_callVi C [] [] okM_17.1 (ocell_7 okM_17.2.1) rfl q801 q25 (hr_X7_one  _ _  hm) q799 q802 q72 md_X7_one (by omega) (by omega) rfl rfl (Nat.le_of_ble_eq_true rfl) dX7_one_116 (fun v18 S17 hm => ?_)
          refine cf_if_ne C (tgt := 124) dX7_one_119 (by decide) hm (fun hm => ?_) (fun hm => ?_)
          · refine cf_aload_n C dX7_one_124 rfl 1 rfl ?_
            refine cf_dup C dX7_one_125 rfl ?_
            refine gf_7_6 C inX7 okM_17 q700 dX7_one_126 ?_
            refine cf_iconst C dX7_one_129 (v := 1) rfl ?_
            refine cf_isub C dX7_one_130 ?_
            refine pf_7_6 C inX7 okM_17 q700 dX7_one_131 ?_
            refine cf_nmS hm (fun S19 hm => ?_)
            refine cf_aload_n C dX7_one_134 rfl 1 rfl ?_
            refine cf_iconst C dX7_one_135 (v := 2) rfl ?_
            refine cf_iconst C dX7_one_136 (v := 0) rfl ?_
            refine cf_callVv C [.int 2, .int 0] [] okM_17.1 (ocell_7 okM_17.2.1) rfl q813 q28 (c_X7_step1 (vL E) (vG E) 2 0 _ _  hm) q811 q814 q72 md_X7_step1 (by omega) (by omega) rfl rfl (Nat.le_of_ble_eq_true rfl) dX7_one_137 (fun S20 hm => ?_)
            refine cf_iconst C dX7_one_140 (v := 1) rfl ?_
            exact hR _ _ _ _ dX7_one_141 (Or.inr rfl) hm
          · refine cf_iconst C dX7_one_122 (v := 0) rfl ?_
            exact hR _ _ _ _ dX7_one_123 (Or.inl rfl) hm
    · refine cf_iconst C dX7_one_42 (v := 0) rfl ?_
      refine cf_istore_n C (L1 := [(2, .int 0), (1, .int v2), (0, .ref (adr (vG E) 17 0))]) dX7_one_43 rfl (by decide) rfl ?_
      refine cf_iconst C dX7_one_44 (v := 0) rfl ?_
      refine cf_istore_n C (L1 := [(3, .int 0), (2, .int 0), (1, .int v2), (0, .ref (adr (vG E) 17 0))]) dX7_one_45 rfl (by decide) rfl ?_
      refine cf_sub C [3, 1, 0] rfl ?_
      obtain ⟨k, hm⟩ := hm
      exact w_L_X7_one_46 C hr_X7_whole hr_X7_both hr_X7_compared hr_X7_sum hr_X7_product hr_X7_one hR k 0 0 _ hm
  · refine cf_aload_n C dX7_one_13 rfl 1 rfl ?_
    refine cf_dup C dX7_one_14 rfl ?_
    refine gf_7_5 C inX7 okM_17 q699 dX7_one_15 ?_
    refine cf_iconst C dX7_one_18 (v := 1) rfl ?_
    refine cf_iadd C dX7_one_19 ?_
    refine pf_7_5 C inX7 okM_17 q699 dX7_one_20 ?_
    refine cf_nmS hm (fun S32 hm => ?_)
    refine cf_aload_n C dX7_one_23 rfl 1 rfl ?_
    refine cf_iconst C dX7_one_24 (v := 1) rfl ?_
    refine cf_iload_n C dX7_one_25 rfl 0 rfl ?_
    refine cf_callVv C [.int 1, .int v2] [] okM_17.1 (ocell_7 okM_17.2.1) rfl q813 q28 (c_X7_step1 (vL E) (vG E) 1 v2 _ _  hm) q811 q814 q72 md_X7_step1 (by omega) (by omega) rfl rfl (Nat.le_of_ble_eq_true rfl) dX7_one_26 (fun S33 hm => ?_)
    refine cf_iconst C dX7_one_29 (v := 1) rfl ?_
    exact hR _ _ _ _ dX7_one_30 (Or.inr rfl) hm
def G_X7_whole : Nat → (St → (Int32 → St → Prop) → Prop) × (St → (Int32 → St → Prop) → Prop) × (St → (Int32 → St → Prop) → Prop) × (St → (Int32 → St → Prop) → Prop) × (St → (Int32 → St → Prop) → Prop) × (St → (Int32 → St → Prop) → Prop)
  | 0 => ((fun _ _ => False), (fun _ _ => False), (fun _ _ => False), (fun _ _ => False), (fun _ _ => False), (fun _ _ => False))
  | D + 1 => (B_X7_whole (G_X7_whole D).1 (G_X7_whole D).2.1 (G_X7_whole D).2.2.1 (G_X7_whole D).2.2.2.1 (G_X7_whole D).2.2.2.2.1 (G_X7_whole D).2.2.2.2.2, B_X7_both (G_X7_whole D).1 (G_X7_whole D).2.1 (G_X7_whole D).2.2.1 (G_X7_whole D).2.2.2.1 (G_X7_whole D).2.2.2.2.1 (G_X7_whole D).2.2.2.2.2, B_X7_compared (G_X7_whole D).1 (G_X7_whole D).2.1 (G_X7_whole D).2.2.1 (G_X7_whole D).2.2.2.1 (G_X7_whole D).2.2.2.2.1 (G_X7_whole D).2.2.2.2.2, B_X7_sum (G_X7_whole D).1 (G_X7_whole D).2.1 (G_X7_whole D).2.2.1 (G_X7_whole D).2.2.2.1 (G_X7_whole D).2.2.2.2.1 (G_X7_whole D).2.2.2.2.2, B_X7_product (G_X7_whole D).1 (G_X7_whole D).2.1 (G_X7_whole D).2.2.1 (G_X7_whole D).2.2.2.1 (G_X7_whole D).2.2.2.2.1 (G_X7_whole D).2.2.2.2.2, B_X7_one (G_X7_whole D).1 (G_X7_whole D).2.1 (G_X7_whole D).2.2.1 (G_X7_whole D).2.2.2.1 (G_X7_whole D).2.2.2.2.1 (G_X7_whole D).2.2.2.2.2)
theorem cg_X7_whole (l : Launch) (G : GX) : ∀ D : Nat, (∀  (S : St) (Q : Int32 → St → Prop), (G_X7_whole D).1  S Q → CTi l yX7_whole (Cond.code yX7_whole cX7_whole 1 (some .boolean) :: AW) { frames := D + 1, cells := 0, slots := 0, locals := 30 * D + 22 } G enM [.ref (adr G 17 0)] S Q) ∧ (∀  (S : St) (Q : Int32 → St → Prop), (G_X7_whole D).2.1  S Q → CTi l yX7_both (Cond.code yX7_both cX7_both 1 (some .boolean) :: AW) { frames := D + 1, cells := 0, slots := 0, locals := 30 * D + 22 } G enM [.ref (adr G 17 0)] S Q) ∧ (∀  (S : St) (Q : Int32 → St → Prop), (G_X7_whole D).2.2.1  S Q → CTi l yX7_compared (Cond.code yX7_compared cX7_compared 2 (some .boolean) :: AW) { frames := D + 1, cells := 0, slots := 0, locals := 30 * D + 22 } G enM [.ref (adr G 17 0)] S Q) ∧ (∀  (S : St) (Q : Int32 → St → Prop), (G_X7_whole D).2.2.2.1  S Q → CTi l yX7_sum (Cond.code yX7_sum cX7_sum 2 (some .boolean) :: AW) { frames := D + 1, cells := 0, slots := 0, locals := 30 * D + 22 } G enM [.ref (adr G 17 0)] S Q) ∧ (∀  (S : St) (Q : Int32 → St → Prop), (G_X7_whole D).2.2.2.2.1  S Q → CTi l yX7_product (Cond.code yX7_product cX7_product 2 (some .boolean) :: AW) { frames := D + 1, cells := 0, slots := 0, locals := 30 * D + 22 } G enM [.ref (adr G 17 0)] S Q) ∧ (∀  (S : St) (Q : Int32 → St → Prop), (G_X7_whole D).2.2.2.2.2  S Q → CTi l yX7_one (Cond.code yX7_one cX7_one 4 (some .boolean) :: AW) { frames := D + 1, cells := 0, slots := 0, locals := 30 * D + 22 } G enM [.ref (adr G 17 0)] S Q) := by
  intro D
  induction D with
  | zero => exact ⟨fun _ _ hm => hm.elim, fun _ _ hm => hm.elim, fun _ _ hm => hm.elim, fun _ _ hm => hm.elim, fun _ _ hm => hm.elim, fun _ _ hm => hm.elim⟩
  | succ D ih => exact ⟨fun  S Q  hm => cb_X7_whole l G D ih.1 ih.2.1 ih.2.2.1 ih.2.2.2.1 ih.2.2.2.2.1 ih.2.2.2.2.2  S Q  hm, fun  S Q  hm => cb_X7_both l G D ih.1 ih.2.1 ih.2.2.1 ih.2.2.2.1 ih.2.2.2.2.1 ih.2.2.2.2.2  S Q  hm, fun  S Q  hm => cb_X7_compared l G D ih.1 ih.2.1 ih.2.2.1 ih.2.2.2.1 ih.2.2.2.2.1 ih.2.2.2.2.2  S Q  hm, fun  S Q  hm => cb_X7_sum l G D ih.1 ih.2.1 ih.2.2.1 ih.2.2.2.1 ih.2.2.2.2.1 ih.2.2.2.2.2  S Q  hm, fun  S Q  hm => cb_X7_product l G D ih.1 ih.2.1 ih.2.2.1 ih.2.2.2.1 ih.2.2.2.2.1 ih.2.2.2.2.2  S Q  hm, fun  S Q  hm => cb_X7_one l G D ih.1 ih.2.1 ih.2.2.1 ih.2.2.2.1 ih.2.2.2.2.1 ih.2.2.2.2.2  S Q  hm⟩
def E_X7_whole  (S : St) (Q : Int32 → St → Prop) : Prop := (G_X7_whole 64).1  S Q
theorem c_X7_whole (l : Launch) (G : GX)  (S : St) (Q : Int32 → St → Prop)  (hm : E_X7_whole  S Q) : CTi l yX7_whole (Cond.code yX7_whole cX7_whole 1 (some .boolean) :: AW) { frames := 65, cells := 0, slots := 0, locals := 1942 } G enM [.ref (adr G 17 0)] S Q := (cg_X7_whole l G 64).1  S Q  hm
def E_X7_both  (S : St) (Q : Int32 → St → Prop) : Prop := (G_X7_whole 64).2.1  S Q
theorem c_X7_both (l : Launch) (G : GX)  (S : St) (Q : Int32 → St → Prop)  (hm : E_X7_both  S Q) : CTi l yX7_both (Cond.code yX7_both cX7_both 1 (some .boolean) :: AW) { frames := 65, cells := 0, slots := 0, locals := 1942 } G enM [.ref (adr G 17 0)] S Q := (cg_X7_whole l G 64).2.1  S Q  hm
def E_X7_compared  (S : St) (Q : Int32 → St → Prop) : Prop := (G_X7_whole 64).2.2.1  S Q
theorem c_X7_compared (l : Launch) (G : GX)  (S : St) (Q : Int32 → St → Prop)  (hm : E_X7_compared  S Q) : CTi l yX7_compared (Cond.code yX7_compared cX7_compared 2 (some .boolean) :: AW) { frames := 65, cells := 0, slots := 0, locals := 1942 } G enM [.ref (adr G 17 0)] S Q := (cg_X7_whole l G 64).2.2.1  S Q  hm
def E_X7_sum  (S : St) (Q : Int32 → St → Prop) : Prop := (G_X7_whole 64).2.2.2.1  S Q
theorem c_X7_sum (l : Launch) (G : GX)  (S : St) (Q : Int32 → St → Prop)  (hm : E_X7_sum  S Q) : CTi l yX7_sum (Cond.code yX7_sum cX7_sum 2 (some .boolean) :: AW) { frames := 65, cells := 0, slots := 0, locals := 1942 } G enM [.ref (adr G 17 0)] S Q := (cg_X7_whole l G 64).2.2.2.1  S Q  hm
def E_X7_product  (S : St) (Q : Int32 → St → Prop) : Prop := (G_X7_whole 64).2.2.2.2.1  S Q
theorem c_X7_product (l : Launch) (G : GX)  (S : St) (Q : Int32 → St → Prop)  (hm : E_X7_product  S Q) : CTi l yX7_product (Cond.code yX7_product cX7_product 2 (some .boolean) :: AW) { frames := 65, cells := 0, slots := 0, locals := 1942 } G enM [.ref (adr G 17 0)] S Q := (cg_X7_whole l G 64).2.2.2.2.1  S Q  hm
def E_X7_one  (S : St) (Q : Int32 → St → Prop) : Prop := (G_X7_whole 64).2.2.2.2.2  S Q
theorem c_X7_one (l : Launch) (G : GX)  (S : St) (Q : Int32 → St → Prop)  (hm : E_X7_one  S Q) : CTi l yX7_one (Cond.code yX7_one cX7_one 4 (some .boolean) :: AW) { frames := 65, cells := 0, slots := 0, locals := 1942 } G enM [.ref (adr G 17 0)] S Q := (cg_X7_whole l G 64).2.2.2.2.2  S Q  hm

def L_X7_text_101    (Q : Int32 → St → Prop) : Nat → Int32 → Int32 → St → Prop
  | 0 => fun _ _ _ => False
  | n + 1 => fun x3 x4 S => if (2 * (S.1 17 7)) ≤ x4 then (Q 1 S) else (vp_in x4 124 ∧ (vp_in ((x3 + 1) + x4) 387 ∧ (nmS (stR S 17 0 (upd (S.2 17 0) ((x3 + 1) + x4).toNatClampNeg (S.2 17 9 x4.toNatClampNeg))) (fun S12 => nmI (x4 + 1) (fun v13 => L_X7_text_101 Q n x3 v13 S12)))))
set_option maxRecDepth 20000 in
theorem w_L_X7_text_101 {E : EV} {Q : Int32 → St → Prop}   (C : CX E cX7_text RX7 5 enM 66 1962)   (hR : RTi E cX7_text Q) : ∀ (n : Nat) (x3 : Int32) (x4 : Int32) (S : St), L_X7_text_101 Q n x3 x4 S → CF E S 101 [(0, .ref (adr (vG E) 17 0)), (3, .int x3), (4, .int x4)] [] := by
  intro n
  induction n with
  | zero =>
    intro x3 x4 S hm
    exact hm.elim
  | succ n ih =>
    intro x3 x4 S hm
    unfold L_X7_text_101 at hm
    refine cf_iload C dX7_text_101 2 rfl ?_
    refine cf_iconst C dX7_text_103 (v := 2) rfl ?_
    refine cf_aload_n C dX7_text_104 rfl 0 rfl ?_
    refine gf_7_7 C inX7 okM_17 q701 dX7_text_105 ?_
    refine cf_imul C dX7_text_108 ?_
    refine cf_icmp_ge C (tgt := 136) dX7_text_109 (by decide) hm (fun hm => ?_) (fun hm => ?_)
    · refine cf_iconst C dX7_text_136 (v := 1) rfl ?_
      exact hR _ _ _ _ dX7_text_137 hm
    · refine cf_aload_n C dX7_text_112 rfl 0 rfl ?_
      refine gf_7_0 C inX7 okM_17 q694 dX7_text_113 ?_
      refine cf_iload_n C dX7_text_116 rfl 1 rfl ?_
      refine cf_iconst C dX7_text_117 (v := 1) rfl ?_
      refine cf_iadd C dX7_text_118 ?_
      refine cf_iload C dX7_text_119 2 rfl ?_
      refine cf_iadd C dX7_text_121 ?_
      refine cf_aload_n C dX7_text_122 rfl 0 rfl ?_
      refine gf_7_9 C inX7 okM_17 q703 dX7_text_123 ?_
      refine cf_iload C dX7_text_126 2 rfl ?_
      refine cf_iald C (okA_of 9 okM_17 rfl (by decide) (by decide) (by decide)) dX7_text_128 hm (fun hm => ?_)
      refine cf_iast C (okA_of 0 okM_17 rfl (by decide) (by decide) (by decide)) dX7_text_129 hm (fun hm => ?_)
      refine cf_nmS hm (fun S12 hm => ?_)
      refine cf_iincN C (L1 := fun v13 => [(4, .int v13), (0, .ref (adr (vG E) 17 0)), (3, .int x3)]) dX7_text_130 2 rfl rfl (by decide) (fun _ => rfl) hm (fun v13 hm => ?_)
      refine cf_goto C (tgt := 101) dX7_text_133 (by decide) ?_
      refine cf_sub C [1, 2, 0] rfl ?_
      exact ih x3 v13 _ hm
def J_X7_text_60    (Q : Int32 → St → Prop) (x1 : Int32) (t0 : Int32) (S : St) : Prop := vp_in 3 387 ∧ (nmS (stR S 17 0 (upd (S.2 17 0) (3 : Int32).toNatClampNeg 0)) (fun S9 => if t0 = 0 then (Q ((-10) - (S9.1 17 5)) S9) else (nmI (53 + (125 * x1)) (fun v10 => vp_in v10 387 ∧ (nmS (stR S9 17 0 (upd (S9.2 17 0) v10.toNatClampNeg (S9.1 17 7))) (fun S11 => ∃ k, L_X7_text_101 Q k v10 0 S11))))))
set_option maxRecDepth 20000 in
theorem w_J_X7_text_60 {E : EV} {Q : Int32 → St → Prop}   (C : CX E cX7_text RX7 5 enM 66 1962)   (hR : RTi E cX7_text Q) : ∀ (x1 : Int32) (t0 : Int32) (S : St), J_X7_text_60 Q x1 t0 S → CF E S 60 [(0, .ref (adr (vG E) 17 0)), (1, .int x1)] [.int t0] := by
  intro x1 t0 S hm
  unfold J_X7_text_60 at hm
  refine cf_istore_n C (L1 := [(2, .int t0), (0, .ref (adr (vG E) 17 0)), (1, .int x1)]) dX7_text_60 rfl (by decide) rfl ?_
  refine cf_aload_n C dX7_text_61 rfl 1 rfl ?_
  refine gf_7_0 C inX7 okM_17 q694 dX7_text_62 ?_
  refine cf_iconst C dX7_text_65 (v := 3) rfl ?_
  refine cf_iconst C dX7_text_66 (v := 0) rfl ?_
  refine cf_iast C (okA_of 0 okM_17 rfl (by decide) (by decide) (by decide)) dX7_text_67 hm (fun hm => ?_)
  refine cf_nmS hm (fun S9 hm => ?_)
  refine cf_iload_n C dX7_text_68 rfl 0 rfl ?_
  refine cf_if_ne C (tgt := 80) dX7_text_69 (by decide) hm (fun hm => ?_) (fun hm => ?_)
  · refine cf_bipush C dX7_text_80 (v := 53) rfl ?_
    refine cf_bipush C dX7_text_82 (v := 125) rfl ?_
    refine cf_iload_n C dX7_text_84 rfl 2 rfl ?_
    refine cf_imul C dX7_text_85 ?_
    refine cf_iadd C dX7_text_86 ?_
    refine cf_nmI hm (fun v10 hm => ?_)
    refine cf_istore_n C (L1 := [(3, .int v10), (2, .int t0), (0, .ref (adr (vG E) 17 0)), (1, .int x1)]) dX7_text_87 rfl (by decide) rfl ?_
    refine cf_aload_n C dX7_text_88 rfl 2 rfl ?_
    refine gf_7_0 C inX7 okM_17 q694 dX7_text_89 ?_
    refine cf_iload_n C dX7_text_92 rfl 0 rfl ?_
    refine cf_aload_n C dX7_text_93 rfl 2 rfl ?_
    refine gf_7_7 C inX7 okM_17 q701 dX7_text_94 ?_
    refine cf_iast C (okA_of 0 okM_17 rfl (by decide) (by decide) (by decide)) dX7_text_97 hm (fun hm => ?_)
    refine cf_nmS hm (fun S11 hm => ?_)
    refine cf_iconst C dX7_text_98 (v := 0) rfl ?_
    refine cf_istore C (L1 := [(4, .int 0), (3, .int v10), (2, .int t0), (0, .ref (adr (vG E) 17 0)), (1, .int x1)]) dX7_text_99 (by decide) rfl ?_
    refine cf_sub C [3, 1, 0] rfl ?_
    obtain ⟨k, hm⟩ := hm
    exact w_L_X7_text_101 C hR k v10 0 _ hm
  · refine cf_bipush C dX7_text_72 (v := (-10)) rfl ?_
    refine cf_aload_n C dX7_text_74 rfl 1 rfl ?_
    refine gf_7_5 C inX7 okM_17 q699 dX7_text_75 ?_
    refine cf_isub C dX7_text_78 ?_
    exact hR _ _ _ _ dX7_text_79 hm
def E_X7_text (x1 : Int32) (S : St) (Q : Int32 → St → Prop) : Prop := E_X7_in x1 0 1 S (fun v2 S1 => if v2 = 0 then (E_X7_error 1 S1 (fun v15 S14 => Q v15 S14)) else (nmS (stI S1 17 8 x1) (fun S3 => nmS (stI S3 17 5 0) (fun S4 => nmS (stI S4 17 6 0) (fun S5 => nmS (stI S5 17 7 0) (fun S6 => E_X7_whole S6 (fun v8 S7 => if v8 = 0 then (J_X7_text_60 Q x1 0 S7) else (vp_in 3 387 ∧ (if (S7.1 17 5) = (S7.2 17 0 (3 : Int32).toNatClampNeg) then (J_X7_text_60 Q x1 1 S7) else (J_X7_text_60 Q x1 0 S7))))))))))
set_option maxRecDepth 20000 in
theorem c_X7_text (l : Launch) (G : GX) (x1 : Int32) (S : St) (Q : Int32 → St → Prop)  (hm : E_X7_text x1 S Q) : CTi l yX7_text (Cond.code yX7_text cX7_text 5 (some .int) :: AW) { frames := 66, cells := 0, slots := 0, locals := 1962 } G enM [.ref (adr G 17 0), .int x1] S Q := by
  refine ct_start_i (by decide) enM_nd (Nat.le_of_ble_eq_true rfl) (fun E hG hl C hR => ?_)
  subst hG
  subst hl
  show CF E S 0 [(0, .ref (adr (vG E) 17 0)), (1, .int x1)] []
  unfold E_X7_text at hm
  refine cf_iload_n C dX7_text_0 rfl 1 rfl ?_
  refine cf_iconst C dX7_text_1 (v := 0) rfl ?_
  refine cf_iconst C dX7_text_2 (v := 1) rfl ?_
  refine cf_callSi C [.int x1, .int 0, .int 1] [] q767 (c_X7_in (vL E) (vG E) x1 0 1 _ _  hm) q766 q768 q72 md_X7_in (Nat.le_of_ble_eq_true rfl) (Nat.le_of_ble_eq_true rfl) rfl rfl (Nat.le_of_ble_eq_true rfl) dX7_text_3 (fun v2 S1 hm => ?_)
  refine cf_if_ne C (tgt := 15) dX7_text_6 (by decide) hm (fun hm => ?_) (fun hm => ?_)
  · refine cf_aload_n C dX7_text_15 rfl 0 rfl ?_
    refine cf_iload_n C dX7_text_16 rfl 1 rfl ?_
    refine pf_7_8 C inX7 okM_17 q702 dX7_text_17 ?_
    refine cf_nmS hm (fun S3 hm => ?_)
    refine cf_aload_n C dX7_text_20 rfl 0 rfl ?_
    refine cf_iconst C dX7_text_21 (v := 0) rfl ?_
    refine pf_7_5 C inX7 okM_17 q699 dX7_text_22 ?_
    refine cf_nmS hm (fun S4 hm => ?_)
    refine cf_aload_n C dX7_text_25 rfl 0 rfl ?_
    refine cf_iconst C dX7_text_26 (v := 0) rfl ?_
    refine pf_7_6 C inX7 okM_17 q700 dX7_text_27 ?_
    refine cf_nmS hm (fun S5 hm => ?_)
    refine cf_aload_n C dX7_text_30 rfl 0 rfl ?_
    refine cf_iconst C dX7_text_31 (v := 0) rfl ?_
    refine pf_7_7 C inX7 okM_17 q701 dX7_text_32 ?_
    refine cf_nmS hm (fun S6 hm => ?_)
    refine cf_aload_n C dX7_text_35 rfl 0 rfl ?_
    refine cf_callVi C [] [] okM_17.1 (ocell_7 okM_17.2.1) rfl q781 q20 (c_X7_whole (vL E) (vG E)  _ _  hm) q779 q782 q72 md_X7_whole (Nat.le_of_ble_eq_true rfl) (Nat.le_of_ble_eq_true rfl) rfl rfl (Nat.le_of_ble_eq_true rfl) dX7_text_36 (fun v8 S7 hm => ?_)
    refine cf_if_eq C (tgt := 59) dX7_text_39 (by decide) hm (fun hm => ?_) (fun hm => ?_)
    · refine cf_iconst C dX7_text_59 (v := 0) rfl ?_
      exact w_J_X7_text_60 C hR x1 0 _ hm
    · refine cf_aload_n C dX7_text_42 rfl 0 rfl ?_
      refine gf_7_5 C inX7 okM_17 q699 dX7_text_43 ?_
      refine cf_aload_n C dX7_text_46 rfl 0 rfl ?_
      refine gf_7_0 C inX7 okM_17 q694 dX7_text_47 ?_
      refine cf_iconst C dX7_text_50 (v := 3) rfl ?_
      refine cf_iald C (okA_of 0 okM_17 rfl (by decide) (by decide) (by decide)) dX7_text_51 hm (fun hm => ?_)
      refine cf_icmp_ne C (tgt := 59) dX7_text_52 (by decide) hm (fun hm => ?_) (fun hm => ?_)
      · refine cf_iconst C dX7_text_59 (v := 0) rfl ?_
        exact w_J_X7_text_60 C hR x1 0 _ hm
      · refine cf_iconst C dX7_text_55 (v := 1) rfl ?_
        refine cf_goto C (tgt := 60) dX7_text_56 (by decide) ?_
        exact w_J_X7_text_60 C hR x1 1 _ hm
  · refine cf_aload_n C dX7_text_9 rfl 0 rfl ?_
    refine cf_iconst C dX7_text_10 (v := 1) rfl ?_
    refine cf_callVi C [.int 1] [] okM_17.1 (ocell_7 okM_17.2.1) rfl q771 q19 (c_X7_error (vL E) (vG E) 1 _ _  hm) q769 q772 q72 md_X7_error (Nat.le_of_ble_eq_true rfl) (Nat.le_of_ble_eq_true rfl) rfl rfl (Nat.le_of_ble_eq_true rfl) dX7_text_11 (fun v15 S14 hm => ?_)
    exact hR _ _ _ _ dX7_text_14 hm

def E_X7_hasText (x1 : Int32) (S : St) (Q : Int32 → St → Prop) : Prop := vp_in (53 + (125 * x1)) 387 ∧ (if (S.2 17 0 (53 + (125 * x1)).toNatClampNeg) ≤ 0 then (Q 0 S) else (Q 1 S))
set_option maxRecDepth 20000 in
theorem c_X7_hasText (l : Launch) (G : GX) (x1 : Int32) (S : St) (Q : Int32 → St → Prop)  (hm : E_X7_hasText x1 S Q) : CTi l yX7_hasText (Cond.code yX7_hasText cX7_hasText 2 (some .boolean) :: AW) { frames := 0, cells := 0, slots := 0, locals := 0 } G enM [.ref (adr G 17 0), .int x1] S Q := by
  refine ct_start_z (by decide) enM_nd (Nat.le_of_ble_eq_true rfl) (fun E hG hl C hR => ?_)
  subst hG
  subst hl
  show CF E S 0 [(0, .ref (adr (vG E) 17 0)), (1, .int x1)] []
  unfold E_X7_hasText at hm
  refine cf_aload_n C dX7_hasText_0 rfl 0 rfl ?_
  refine gf_7_0 C inX7 okM_17 q694 dX7_hasText_1 ?_
  refine cf_bipush C dX7_hasText_4 (v := 53) rfl ?_
  refine cf_bipush C dX7_hasText_6 (v := 125) rfl ?_
  refine cf_iload_n C dX7_hasText_8 rfl 1 rfl ?_
  refine cf_imul C dX7_hasText_9 ?_
  refine cf_iadd C dX7_hasText_10 ?_
  refine cf_iald C (okA_of 0 okM_17 rfl (by decide) (by decide) (by decide)) dX7_hasText_11 hm (fun hm => ?_)
  refine cf_if_le C (tgt := 19) dX7_hasText_12 (by decide) hm (fun hm => ?_) (fun hm => ?_)
  · refine cf_iconst C dX7_hasText_19 (v := 0) rfl ?_
    exact hR _ _ _ _ dX7_hasText_20 (Or.inl rfl) hm
  · refine cf_iconst C dX7_hasText_15 (v := 1) rfl ?_
    refine cf_goto C (tgt := 20) dX7_hasText_16 (by decide) ?_
    exact hR _ _ _ _ dX7_hasText_20 (Or.inr rfl) hm

def E_X7_untell (x1 : Int32) (S : St) (Q : Int32 → St → Prop) : Prop := E_X7_in x1 0 1 S (fun v2 S1 => if v2 = 0 then (E_X7_error 1 S1 (fun v8 S7 => Q v8 S7)) else (E_X7_hasText x1 S1 (fun v4 S3 => if v4 = 0 then (vp_in (53 + (125 * x1)) 387 ∧ (nmS (stR S3 17 0 (upd (S3.2 17 0) (53 + (125 * x1)).toNatClampNeg 0)) (fun S5 => Q 0 S5))) else (vp_in (53 + (125 * x1)) 387 ∧ (nmS (stR S3 17 0 (upd (S3.2 17 0) (53 + (125 * x1)).toNatClampNeg 0)) (fun S6 => Q 1 S6))))))
set_option maxRecDepth 20000 in
theorem c_X7_untell (l : Launch) (G : GX) (x1 : Int32) (S : St) (Q : Int32 → St → Prop)  (hm : E_X7_untell x1 S Q) : CTi l yX7_untell (Cond.code yX7_untell cX7_untell 3 (some .int) :: AW) { frames := 1, cells := 0, slots := 0, locals := 22 } G enM [.ref (adr G 17 0), .int x1] S Q := by
  refine ct_start_i (by decide) enM_nd (Nat.le_of_ble_eq_true rfl) (fun E hG hl C hR => ?_)
  subst hG
  subst hl
  show CF E S 0 [(0, .ref (adr (vG E) 17 0)), (1, .int x1)] []
  unfold E_X7_untell at hm
  refine cf_iload_n C dX7_untell_0 rfl 1 rfl ?_
  refine cf_iconst C dX7_untell_1 (v := 0) rfl ?_
  refine cf_iconst C dX7_untell_2 (v := 1) rfl ?_
  refine cf_callSi C [.int x1, .int 0, .int 1] [] q767 (c_X7_in (vL E) (vG E) x1 0 1 _ _  hm) q766 q768 q72 md_X7_in (Nat.le_of_ble_eq_true rfl) (Nat.le_of_ble_eq_true rfl) rfl rfl (Nat.le_of_ble_eq_true rfl) dX7_untell_3 (fun v2 S1 hm => ?_)
  refine cf_if_ne C (tgt := 15) dX7_untell_6 (by decide) hm (fun hm => ?_) (fun hm => ?_)
  · refine cf_aload_n C dX7_untell_15 rfl 0 rfl ?_
    refine cf_iload_n C dX7_untell_16 rfl 1 rfl ?_
    refine cf_callVi C [.int x1] [] okM_17.1 (ocell_7 okM_17.2.1) rfl q825 q30 (c_X7_hasText (vL E) (vG E) x1 _ _  hm) q823 q826 q72 md_X7_hasText (Nat.le_of_ble_eq_true rfl) (Nat.le_of_ble_eq_true rfl) rfl rfl (Nat.le_of_ble_eq_true rfl) dX7_untell_17 (fun v4 S3 hm => ?_)
    refine cf_if_eq C (tgt := 27) dX7_untell_20 (by decide) hm (fun hm => ?_) (fun hm => ?_)
    · refine cf_iconst C dX7_untell_27 (v := 0) rfl ?_
      refine cf_istore_n C (L1 := [(2, .int 0), (0, .ref (adr (vG E) 17 0)), (1, .int x1)]) dX7_untell_28 rfl (by decide) rfl ?_
      refine cf_aload_n C dX7_untell_29 rfl 1 rfl ?_
      refine gf_7_0 C inX7 okM_17 q694 dX7_untell_30 ?_
      refine cf_bipush C dX7_untell_33 (v := 53) rfl ?_
      refine cf_bipush C dX7_untell_35 (v := 125) rfl ?_
      refine cf_iload_n C dX7_untell_37 rfl 2 rfl ?_
      refine cf_imul C dX7_untell_38 ?_
      refine cf_iadd C dX7_untell_39 ?_
      refine cf_iconst C dX7_untell_40 (v := 0) rfl ?_
      refine cf_iast C (okA_of 0 okM_17 rfl (by decide) (by decide) (by decide)) dX7_untell_41 hm (fun hm => ?_)
      refine cf_nmS hm (fun S5 hm => ?_)
      refine cf_iload_n C dX7_untell_42 rfl 0 rfl ?_
      exact hR _ _ _ _ dX7_untell_43 hm
    · refine cf_iconst C dX7_untell_23 (v := 1) rfl ?_
      refine cf_goto C (tgt := 28) dX7_untell_24 (by decide) ?_
      refine cf_istore_n C (L1 := [(2, .int 1), (0, .ref (adr (vG E) 17 0)), (1, .int x1)]) dX7_untell_28 rfl (by decide) rfl ?_
      refine cf_aload_n C dX7_untell_29 rfl 1 rfl ?_
      refine gf_7_0 C inX7 okM_17 q694 dX7_untell_30 ?_
      refine cf_bipush C dX7_untell_33 (v := 53) rfl ?_
      refine cf_bipush C dX7_untell_35 (v := 125) rfl ?_
      refine cf_iload_n C dX7_untell_37 rfl 2 rfl ?_
      refine cf_imul C dX7_untell_38 ?_
      refine cf_iadd C dX7_untell_39 ?_
      refine cf_iconst C dX7_untell_40 (v := 0) rfl ?_
      refine cf_iast C (okA_of 0 okM_17 rfl (by decide) (by decide) (by decide)) dX7_untell_41 hm (fun hm => ?_)
      refine cf_nmS hm (fun S6 hm => ?_)
      refine cf_iload_n C dX7_untell_42 rfl 0 rfl ?_
      exact hR _ _ _ _ dX7_untell_43 hm
  · refine cf_aload_n C dX7_untell_9 rfl 0 rfl ?_
    refine cf_iconst C dX7_untell_10 (v := 1) rfl ?_
    refine cf_callVi C [.int 1] [] okM_17.1 (ocell_7 okM_17.2.1) rfl q771 q19 (c_X7_error (vL E) (vG E) 1 _ _  hm) q769 q772 q72 md_X7_error (Nat.le_of_ble_eq_true rfl) (Nat.le_of_ble_eq_true rfl) rfl rfl (Nat.le_of_ble_eq_true rfl) dX7_untell_11 (fun v8 S7 hm => ?_)
    exact hR _ _ _ _ dX7_untell_14 hm

def E_X7_isKind (x0 : Int32) (S : St) (Q : Int32 → St → Prop) : Prop := E_X7_in x0 0 69 S (fun v2 S1 => (v2 = 0 ∨ v2 = 1) ∧ (Q v2 S1))
set_option maxRecDepth 20000 in
theorem c_X7_isKind (l : Launch) (G : GX) (x0 : Int32) (S : St) (Q : Int32 → St → Prop)  (hm : E_X7_isKind x0 S Q) : CTi l yX7_isKind (Cond.code yX7_isKind cX7_isKind 1 (some .boolean) :: AW) { frames := 1, cells := 0, slots := 0, locals := 22 } G enM [.int x0] S Q := by
  refine ct_start_z (by decide) enM_nd (Nat.le_of_ble_eq_true rfl) (fun E hG hl C hR => ?_)
  subst hG
  subst hl
  show CF E S 0 [(0, .int x0)] []
  unfold E_X7_isKind at hm
  refine cf_iload_n C dX7_isKind_0 rfl 0 rfl ?_
  refine cf_iconst C dX7_isKind_1 (v := 0) rfl ?_
  refine cf_bipush C dX7_isKind_2 (v := 69) rfl ?_
  refine cf_callSi C [.int x0, .int 0, .int 69] [] q767 (c_X7_in (vL E) (vG E) x0 0 69 _ _  hm) q766 q768 q72 md_X7_in (Nat.le_of_ble_eq_true rfl) (Nat.le_of_ble_eq_true rfl) rfl rfl (Nat.le_of_ble_eq_true rfl) dX7_isKind_4 (fun v2 S1 hm => ?_)
  exact hR _ _ _ _ dX7_isKind_7 hm.1 hm.2

def E_X7_lays1 (x1 : Int32) (x2 : Int32) (x3 : Int32) (S : St) (Q : St → Prop) : Prop := vp_in ((8 + (5 * x1)) + x2) 387 ∧ (nmS (stR S 17 0 (upd (S.2 17 0) ((8 + (5 * x1)) + x2).toNatClampNeg x3)) (fun S1 => Q S1))
set_option maxRecDepth 20000 in
theorem c_X7_lays1 (l : Launch) (G : GX) (x1 : Int32) (x2 : Int32) (x3 : Int32) (S : St) (Q : St → Prop)  (hm : E_X7_lays1 x1 x2 x3 S Q) : CTv l yX7_lays1 (Cond.code yX7_lays1 cX7_lays1 4 none :: AW) { frames := 0, cells := 0, slots := 0, locals := 0 } G enM [.ref (adr G 17 0), .int x1, .int x2, .int x3] S Q := by
  refine ct_start_v (by decide) enM_nd (Nat.le_of_ble_eq_true rfl) (fun E hG hl C hR => ?_)
  subst hG
  subst hl
  show CF E S 0 [(0, .ref (adr (vG E) 17 0)), (1, .int x1), (2, .int x2), (3, .int x3)] []
  unfold E_X7_lays1 at hm
  refine cf_aload_n C dX7_lays1_0 rfl 0 rfl ?_
  refine gf_7_0 C inX7 okM_17 q694 dX7_lays1_1 ?_
  refine cf_bipush C dX7_lays1_4 (v := 8) rfl ?_
  refine cf_iconst C dX7_lays1_6 (v := 5) rfl ?_
  refine cf_iload_n C dX7_lays1_7 rfl 1 rfl ?_
  refine cf_imul C dX7_lays1_8 ?_
  refine cf_iadd C dX7_lays1_9 ?_
  refine cf_iload_n C dX7_lays1_10 rfl 2 rfl ?_
  refine cf_iadd C dX7_lays1_11 ?_
  refine cf_iload_n C dX7_lays1_12 rfl 3 rfl ?_
  refine cf_iast C (okA_of 0 okM_17 rfl (by decide) (by decide) (by decide)) dX7_lays1_13 hm (fun hm => ?_)
  refine cf_nmS hm (fun S1 hm => ?_)
  exact hR _ _ _ dX7_lays1_14 hm

def E_X7_laysDish (x1 : Int32) (x2 : Int32) (x3 : Int32) (S : St) (Q : St → Prop) : Prop := vp_in 5 387 ∧ (nmI (S.2 17 0 (5 : Int32).toNatClampNeg) (fun v1 => E_X7_lays1 v1 0 (x1 / 10) S (fun S2 => E_X7_lays1 v1 1 (x1 - x1 / 10 * 10) S2 (fun S3 => E_X7_lays1 v1 2 x2 S3 (fun S4 => E_X7_lays1 v1 3 0 S4 (fun S5 => E_X7_lays1 v1 4 x3 S5 (fun S6 => vp_in 5 387 ∧ (vp_in 5 387 ∧ (nmS (stR S6 17 0 (upd (S6.2 17 0) (5 : Int32).toNatClampNeg ((S6.2 17 0 (5 : Int32).toNatClampNeg) + 1))) (fun S7 => Q S7))))))))))
set_option maxRecDepth 20000 in
theorem c_X7_laysDish (l : Launch) (G : GX) (x1 : Int32) (x2 : Int32) (x3 : Int32) (S : St) (Q : St → Prop)  (hm : E_X7_laysDish x1 x2 x3 S Q) : CTv l yX7_laysDish (Cond.code yX7_laysDish cX7_laysDish 5 none :: AW) { frames := 1, cells := 0, slots := 0, locals := 23 } G enM [.ref (adr G 17 0), .int x1, .int x2, .int x3] S Q := by
  refine ct_start_v (by decide) enM_nd (Nat.le_of_ble_eq_true rfl) (fun E hG hl C hR => ?_)
  subst hG
  subst hl
  show CF E S 0 [(0, .ref (adr (vG E) 17 0)), (1, .int x1), (2, .int x2), (3, .int x3)] []
  unfold E_X7_laysDish at hm
  refine cf_aload_n C dX7_laysDish_0 rfl 0 rfl ?_
  refine gf_7_0 C inX7 okM_17 q694 dX7_laysDish_1 ?_
  refine cf_iconst C dX7_laysDish_4 (v := 5) rfl ?_
  refine cf_iald C (okA_of 0 okM_17 rfl (by decide) (by decide) (by decide)) dX7_laysDish_5 hm (fun hm => ?_)
  refine cf_nmI hm (fun v1 hm => ?_)
  refine cf_istore C (L1 := [(4, .int v1), (0, .ref (adr (vG E) 17 0)), (1, .int x1), (2, .int x2), (3, .int x3)]) dX7_laysDish_6 (by decide) rfl ?_
  refine cf_aload_n C dX7_laysDish_8 rfl 1 rfl ?_
  refine cf_iload C dX7_laysDish_9 0 rfl ?_
  refine cf_iconst C dX7_laysDish_11 (v := 0) rfl ?_
  refine cf_iload_n C dX7_laysDish_12 rfl 2 rfl ?_
  refine cf_bipush C dX7_laysDish_13 (v := 10) rfl ?_
  refine cf_idivC C dX7_laysDish_15 (by decide) ?_
  refine cf_callVv C [.int v1, .int 0, .int (x1 / 10)] [] okM_17.1 (ocell_7 okM_17.2.1) rfl q840 q32 (c_X7_lays1 (vL E) (vG E) v1 0 (x1 / 10) _ _  hm) q838 q841 q72 md_X7_lays1 (Nat.le_of_ble_eq_true rfl) (Nat.le_of_ble_eq_true rfl) rfl rfl (Nat.le_of_ble_eq_true rfl) dX7_laysDish_16 (fun S2 hm => ?_)
  refine cf_aload_n C dX7_laysDish_19 rfl 1 rfl ?_
  refine cf_iload C dX7_laysDish_20 0 rfl ?_
  refine cf_iconst C dX7_laysDish_22 (v := 1) rfl ?_
  refine cf_iload_n C dX7_laysDish_23 rfl 2 rfl ?_
  refine cf_bipush C dX7_laysDish_24 (v := 10) rfl ?_
  refine cf_iremC C dX7_laysDish_26 (by decide) ?_
  refine cf_callVv C [.int v1, .int 1, .int (x1 - x1 / 10 * 10)] [] okM_17.1 (ocell_7 okM_17.2.1) rfl q840 q32 (c_X7_lays1 (vL E) (vG E) v1 1 (x1 - x1 / 10 * 10) _ _  hm) q838 q841 q72 md_X7_lays1 (Nat.le_of_ble_eq_true rfl) (Nat.le_of_ble_eq_true rfl) rfl rfl (Nat.le_of_ble_eq_true rfl) dX7_laysDish_27 (fun S3 hm => ?_)
  refine cf_aload_n C dX7_laysDish_30 rfl 1 rfl ?_
  refine cf_iload C dX7_laysDish_31 0 rfl ?_
  refine cf_iconst C dX7_laysDish_33 (v := 2) rfl ?_
  refine cf_iload_n C dX7_laysDish_34 rfl 3 rfl ?_
  refine cf_callVv C [.int v1, .int 2, .int x2] [] okM_17.1 (ocell_7 okM_17.2.1) rfl q840 q32 (c_X7_lays1 (vL E) (vG E) v1 2 x2 _ _  hm) q838 q841 q72 md_X7_lays1 (Nat.le_of_ble_eq_true rfl) (Nat.le_of_ble_eq_true rfl) rfl rfl (Nat.le_of_ble_eq_true rfl) dX7_laysDish_35 (fun S4 hm => ?_)
  refine cf_aload_n C dX7_laysDish_38 rfl 1 rfl ?_
  refine cf_iload C dX7_laysDish_39 0 rfl ?_
  refine cf_iconst C dX7_laysDish_41 (v := 3) rfl ?_
  refine cf_iconst C dX7_laysDish_42 (v := 0) rfl ?_
  refine cf_callVv C [.int v1, .int 3, .int 0] [] okM_17.1 (ocell_7 okM_17.2.1) rfl q840 q32 (c_X7_lays1 (vL E) (vG E) v1 3 0 _ _  hm) q838 q841 q72 md_X7_lays1 (Nat.le_of_ble_eq_true rfl) (Nat.le_of_ble_eq_true rfl) rfl rfl (Nat.le_of_ble_eq_true rfl) dX7_laysDish_43 (fun S5 hm => ?_)
  refine cf_aload_n C dX7_laysDish_46 rfl 1 rfl ?_
  refine cf_iload C dX7_laysDish_47 0 rfl ?_
  refine cf_iconst C dX7_laysDish_49 (v := 4) rfl ?_
  refine cf_iload_n C dX7_laysDish_50 rfl 4 rfl ?_
  refine cf_callVv C [.int v1, .int 4, .int x3] [] okM_17.1 (ocell_7 okM_17.2.1) rfl q840 q32 (c_X7_lays1 (vL E) (vG E) v1 4 x3 _ _  hm) q838 q841 q72 md_X7_lays1 (Nat.le_of_ble_eq_true rfl) (Nat.le_of_ble_eq_true rfl) rfl rfl (Nat.le_of_ble_eq_true rfl) dX7_laysDish_51 (fun S6 hm => ?_)
  refine cf_aload_n C dX7_laysDish_54 rfl 1 rfl ?_
  refine gf_7_0 C inX7 okM_17 q694 dX7_laysDish_55 ?_
  refine cf_iconst C dX7_laysDish_58 (v := 5) rfl ?_
  refine cf_dup2 C dX7_laysDish_59 rfl rfl ?_
  refine cf_iald C (okA_of 0 okM_17 rfl (by decide) (by decide) (by decide)) dX7_laysDish_60 hm (fun hm => ?_)
  refine cf_iconst C dX7_laysDish_61 (v := 1) rfl ?_
  refine cf_iadd C dX7_laysDish_62 ?_
  refine cf_iast C (okA_of 0 okM_17 rfl (by decide) (by decide) (by decide)) dX7_laysDish_63 hm (fun hm => ?_)
  refine cf_nmS hm (fun S7 hm => ?_)
  exact hR _ _ _ dX7_laysDish_64 hm

def E_X7_dish (x1 : Int32) (x2 : Int32) (x3 : Int32) (S : St) (Q : Int32 → St → Prop) : Prop := E_X7_isKind x1 S (fun v2 S1 => if v2 = 0 then (E_X7_error 1 S1 (fun v4 S3 => Q v4 S3)) else (E_X7_in x2 0 99 S1 (fun v6 S5 => if v6 = 0 then (E_X7_error 1 S5 (fun v8 S7 => Q v8 S7)) else (E_X7_in x3 0 9 S5 (fun v10 S9 => if v10 = 0 then (E_X7_error 1 S9 (fun v15 S14 => Q v15 S14)) else (vp_in 5 387 ∧ (if (S9.2 17 0 (5 : Int32).toNatClampNeg) = 9 then (E_X7_error 4 S9 (fun v13 S12 => Q v13 S12)) else (E_X7_laysDish x1 x2 x3 S9 (fun S11 => vp_in 5 387 ∧ (Q ((S11.2 17 0 (5 : Int32).toNatClampNeg) - 1) S11))))))))))
set_option maxRecDepth 20000 in
theorem c_X7_dish (l : Launch) (G : GX) (x1 : Int32) (x2 : Int32) (x3 : Int32) (S : St) (Q : Int32 → St → Prop)  (hm : E_X7_dish x1 x2 x3 S Q) : CTi l yX7_dish (Cond.code yX7_dish cX7_dish 4 (some .int) :: AW) { frames := 2, cells := 0, slots := 0, locals := 47 } G enM [.ref (adr G 17 0), .int x1, .int x2, .int x3] S Q := by
  refine ct_start_i (by decide) enM_nd (Nat.le_of_ble_eq_true rfl) (fun E hG hl C hR => ?_)
  subst hG
  subst hl
  show CF E S 0 [(0, .ref (adr (vG E) 17 0)), (1, .int x1), (2, .int x2), (3, .int x3)] []
  unfold E_X7_dish at hm
  refine cf_iload_n C dX7_dish_0 rfl 1 rfl ?_
  refine cf_callSi C [.int x1] [] q832 (c_X7_isKind (vL E) (vG E) x1 _ _  hm) q831 q833 q72 md_X7_isKind (Nat.le_of_ble_eq_true rfl) (Nat.le_of_ble_eq_true rfl) rfl rfl (Nat.le_of_ble_eq_true rfl) dX7_dish_1 (fun v2 S1 hm => ?_)
  refine cf_if_eq C (tgt := 27) dX7_dish_4 (by decide) hm (fun hm => ?_) (fun hm => ?_)
  · refine cf_aload_n C dX7_dish_27 rfl 0 rfl ?_
    refine cf_iconst C dX7_dish_28 (v := 1) rfl ?_
    refine cf_callVi C [.int 1] [] okM_17.1 (ocell_7 okM_17.2.1) rfl q771 q19 (c_X7_error (vL E) (vG E) 1 _ _  hm) q769 q772 q72 md_X7_error (Nat.le_of_ble_eq_true rfl) (Nat.le_of_ble_eq_true rfl) rfl rfl (Nat.le_of_ble_eq_true rfl) dX7_dish_29 (fun v4 S3 hm => ?_)
    exact hR _ _ _ _ dX7_dish_32 hm
  · refine cf_iload_n C dX7_dish_7 rfl 2 rfl ?_
    refine cf_iconst C dX7_dish_8 (v := 0) rfl ?_
    refine cf_bipush C dX7_dish_9 (v := 99) rfl ?_
    refine cf_callSi C [.int x2, .int 0, .int 99] [] q767 (c_X7_in (vL E) (vG E) x2 0 99 _ _  hm) q766 q768 q72 md_X7_in (Nat.le_of_ble_eq_true rfl) (Nat.le_of_ble_eq_true rfl) rfl rfl (Nat.le_of_ble_eq_true rfl) dX7_dish_11 (fun v6 S5 hm => ?_)
    refine cf_if_eq C (tgt := 27) dX7_dish_14 (by decide) hm (fun hm => ?_) (fun hm => ?_)
    · refine cf_aload_n C dX7_dish_27 rfl 0 rfl ?_
      refine cf_iconst C dX7_dish_28 (v := 1) rfl ?_
      refine cf_callVi C [.int 1] [] okM_17.1 (ocell_7 okM_17.2.1) rfl q771 q19 (c_X7_error (vL E) (vG E) 1 _ _  hm) q769 q772 q72 md_X7_error (Nat.le_of_ble_eq_true rfl) (Nat.le_of_ble_eq_true rfl) rfl rfl (Nat.le_of_ble_eq_true rfl) dX7_dish_29 (fun v8 S7 hm => ?_)
      exact hR _ _ _ _ dX7_dish_32 hm
    · refine cf_iload_n C dX7_dish_17 rfl 3 rfl ?_
      refine cf_iconst C dX7_dish_18 (v := 0) rfl ?_
      refine cf_bipush C dX7_dish_19 (v := 9) rfl ?_
      refine cf_callSi C [.int x3, .int 0, .int 9] [] q767 (c_X7_in (vL E) (vG E) x3 0 9 _ _  hm) q766 q768 q72 md_X7_in (Nat.le_of_ble_eq_true rfl) (Nat.le_of_ble_eq_true rfl) rfl rfl (Nat.le_of_ble_eq_true rfl) dX7_dish_21 (fun v10 S9 hm => ?_)
      refine cf_if_ne C (tgt := 33) dX7_dish_24 (by decide) hm (fun hm => ?_) (fun hm => ?_)
      · refine cf_aload_n C dX7_dish_33 rfl 0 rfl ?_
        refine gf_7_0 C inX7 okM_17 q694 dX7_dish_34 ?_
        refine cf_iconst C dX7_dish_37 (v := 5) rfl ?_
        refine cf_iald C (okA_of 0 okM_17 rfl (by decide) (by decide) (by decide)) dX7_dish_38 hm (fun hm => ?_)
        refine cf_bipush C dX7_dish_39 (v := 9) rfl ?_
        refine cf_icmp_ne C (tgt := 50) dX7_dish_41 (by decide) hm (fun hm => ?_) (fun hm => ?_)
        · refine cf_aload_n C dX7_dish_50 rfl 0 rfl ?_
          refine cf_iload_n C dX7_dish_51 rfl 1 rfl ?_
          refine cf_iload_n C dX7_dish_52 rfl 2 rfl ?_
          refine cf_iload_n C dX7_dish_53 rfl 3 rfl ?_
          refine cf_callVv C [.int x1, .int x2, .int x3] [] okM_17.1 (ocell_7 okM_17.2.1) rfl q836 q31 (c_X7_laysDish (vL E) (vG E) x1 x2 x3 _ _  hm) q834 q837 q72 md_X7_laysDish (Nat.le_of_ble_eq_true rfl) (Nat.le_of_ble_eq_true rfl) rfl rfl (Nat.le_of_ble_eq_true rfl) dX7_dish_54 (fun S11 hm => ?_)
          refine cf_aload_n C dX7_dish_57 rfl 0 rfl ?_
          refine gf_7_0 C inX7 okM_17 q694 dX7_dish_58 ?_
          refine cf_iconst C dX7_dish_61 (v := 5) rfl ?_
          refine cf_iald C (okA_of 0 okM_17 rfl (by decide) (by decide) (by decide)) dX7_dish_62 hm (fun hm => ?_)
          refine cf_iconst C dX7_dish_63 (v := 1) rfl ?_
          refine cf_isub C dX7_dish_64 ?_
          exact hR _ _ _ _ dX7_dish_65 hm
        · refine cf_aload_n C dX7_dish_44 rfl 0 rfl ?_
          refine cf_iconst C dX7_dish_45 (v := 4) rfl ?_
          refine cf_callVi C [.int 4] [] okM_17.1 (ocell_7 okM_17.2.1) rfl q771 q19 (c_X7_error (vL E) (vG E) 4 _ _  hm) q769 q772 q72 md_X7_error (Nat.le_of_ble_eq_true rfl) (Nat.le_of_ble_eq_true rfl) rfl rfl (Nat.le_of_ble_eq_true rfl) dX7_dish_46 (fun v13 S12 hm => ?_)
          exact hR _ _ _ _ dX7_dish_49 hm
      · refine cf_aload_n C dX7_dish_27 rfl 0 rfl ?_
        refine cf_iconst C dX7_dish_28 (v := 1) rfl ?_
        refine cf_callVi C [.int 1] [] okM_17.1 (ocell_7 okM_17.2.1) rfl q771 q19 (c_X7_error (vL E) (vG E) 1 _ _  hm) q769 q772 q72 md_X7_error (Nat.le_of_ble_eq_true rfl) (Nat.le_of_ble_eq_true rfl) rfl rfl (Nat.le_of_ble_eq_true rfl) dX7_dish_29 (fun v15 S14 hm => ?_)
        exact hR _ _ _ _ dX7_dish_32 hm

def E_X7_isDish (x1 : Int32) (S : St) (Q : Int32 → St → Prop) : Prop := vp_in 5 387 ∧ (E_X7_in x1 0 ((S.2 17 0 (5 : Int32).toNatClampNeg) - 1) S (fun v2 S1 => (v2 = 0 ∨ v2 = 1) ∧ (Q v2 S1)))
set_option maxRecDepth 20000 in
theorem c_X7_isDish (l : Launch) (G : GX) (x1 : Int32) (S : St) (Q : Int32 → St → Prop)  (hm : E_X7_isDish x1 S Q) : CTi l yX7_isDish (Cond.code yX7_isDish cX7_isDish 2 (some .boolean) :: AW) { frames := 1, cells := 0, slots := 0, locals := 22 } G enM [.ref (adr G 17 0), .int x1] S Q := by
  refine ct_start_z (by decide) enM_nd (Nat.le_of_ble_eq_true rfl) (fun E hG hl C hR => ?_)
  subst hG
  subst hl
  show CF E S 0 [(0, .ref (adr (vG E) 17 0)), (1, .int x1)] []
  unfold E_X7_isDish at hm
  refine cf_iload_n C dX7_isDish_0 rfl 1 rfl ?_
  refine cf_iconst C dX7_isDish_1 (v := 0) rfl ?_
  refine cf_aload_n C dX7_isDish_2 rfl 0 rfl ?_
  refine gf_7_0 C inX7 okM_17 q694 dX7_isDish_3 ?_
  refine cf_iconst C dX7_isDish_6 (v := 5) rfl ?_
  refine cf_iald C (okA_of 0 okM_17 rfl (by decide) (by decide) (by decide)) dX7_isDish_7 hm (fun hm => ?_)
  refine cf_iconst C dX7_isDish_8 (v := 1) rfl ?_
  refine cf_isub C dX7_isDish_9 ?_
  refine cf_callSi C [.int x1, .int 0, .int ((S.2 17 0 (5 : Int32).toNatClampNeg) - 1)] [] q767 (c_X7_in (vL E) (vG E) x1 0 ((S.2 17 0 (5 : Int32).toNatClampNeg) - 1) _ _  hm) q766 q768 q72 md_X7_in (Nat.le_of_ble_eq_true rfl) (Nat.le_of_ble_eq_true rfl) rfl rfl (Nat.le_of_ble_eq_true rfl) dX7_isDish_10 (fun v2 S1 hm => ?_)
  exact hR _ _ _ _ dX7_isDish_13 hm.1 hm.2

def E_X7_its (x1 : Int32) (x2 : Int32) (S : St) (Q : Int32 → St → Prop) : Prop := vp_in ((8 + (5 * x1)) + x2) 387 ∧ (Q (S.2 17 0 ((8 + (5 * x1)) + x2).toNatClampNeg) S)
set_option maxRecDepth 20000 in
theorem c_X7_its (l : Launch) (G : GX) (x1 : Int32) (x2 : Int32) (S : St) (Q : Int32 → St → Prop)  (hm : E_X7_its x1 x2 S Q) : CTi l yX7_its (Cond.code yX7_its cX7_its 3 (some .int) :: AW) { frames := 0, cells := 0, slots := 0, locals := 0 } G enM [.ref (adr G 17 0), .int x1, .int x2] S Q := by
  refine ct_start_i (by decide) enM_nd (Nat.le_of_ble_eq_true rfl) (fun E hG hl C hR => ?_)
  subst hG
  subst hl
  show CF E S 0 [(0, .ref (adr (vG E) 17 0)), (1, .int x1), (2, .int x2)] []
  unfold E_X7_its at hm
  refine cf_aload_n C dX7_its_0 rfl 0 rfl ?_
  refine gf_7_0 C inX7 okM_17 q694 dX7_its_1 ?_
  refine cf_bipush C dX7_its_4 (v := 8) rfl ?_
  refine cf_iconst C dX7_its_6 (v := 5) rfl ?_
  refine cf_iload_n C dX7_its_7 rfl 1 rfl ?_
  refine cf_imul C dX7_its_8 ?_
  refine cf_iadd C dX7_its_9 ?_
  refine cf_iload_n C dX7_its_10 rfl 2 rfl ?_
  refine cf_iadd C dX7_its_11 ?_
  refine cf_iald C (okA_of 0 okM_17 rfl (by decide) (by decide) (by decide)) dX7_its_12 hm (fun hm => ?_)
  exact hR _ _ _ _ dX7_its_13 hm
