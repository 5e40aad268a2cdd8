def E_X6_season (x1 : Int32) (x2 : Int32) (S : St) (Q : Int32 → St → Prop) : Prop := E_X4_has 3 x1 S (fun v2 S1 => if v2 = 0 then (E_X6_wrong 1 S1 (fun v4 S3 => Q v4 S3)) else (E_X6_within x2 0 9 S1 (fun v6 S5 => if v6 = 0 then (E_X6_wrong 1 S5 (fun v10 S9 => Q v10 S9)) else (vp_in x1 9 ∧ (nmI (S5.2 3 9 x1.toNatClampNeg) (fun v7 => vp_in x1 9 ∧ (nmS (stR S5 3 9 (upd (S5.2 3 9) x1.toNatClampNeg x2)) (fun S8 => Q v7 S8))))))))
set_option maxRecDepth 20000 in
theorem c_X6_season (l : Launch) (G : GX) (x1 : Int32) (x2 : Int32) (S : St) (Q : Int32 → St → Prop)  (hm : E_X6_season x1 x2 S Q) : CTi l yX6_season (Cond.code yX6_season cX6_season 4 (some .int) :: AW) { frames := 1, cells := 0, slots := 0, locals := 22 } G enC [.ref (adr G 0 0), .int x1, .int x2] S Q := by
  refine ct_start_i (by decide) enC_nd (Nat.le_of_ble_eq_true rfl) (fun E hG hl C hR => ?_)
  subst hG
  subst hl
  show CF E S 0 [(0, .ref (adr (vG E) 0 0)), (1, .int x1), (2, .int x2)] []
  unfold E_X6_season at hm
  refine cf_aload_n C dX6_season_0 rfl 0 rfl ?_
  refine gf_6_2 C inX6 okC_0 q278 dX6_season_1 ?_
  refine cf_iload_n C dX6_season_4 rfl 1 rfl ?_
  refine cf_callVi C [.int x1] [] okC_3.1 (ocell_4 okC_3.2.1) rfl q328 q329 (c_X4_has (vL E) (vG E) 3 x1 _ _ okC_3 hm) q327 q330 q68 md_X4_has (Nat.le_of_ble_eq_true rfl) (Nat.le_of_ble_eq_true rfl) rfl rfl (Nat.le_of_ble_eq_true rfl) dX6_season_5 (fun v2 S1 hm => ?_)
  refine cf_if_eq C (tgt := 21) dX6_season_8 (by decide) hm (fun hm => ?_) (fun hm => ?_)
  · refine cf_aload_n C dX6_season_21 rfl 0 rfl ?_
    refine cf_iconst C dX6_season_22 (v := 1) rfl ?_
    refine cf_callVi C [.int 1] [] okC_0.1 (ocell_6 okC_0.2.1) rfl q316 q0 (c_X6_wrong (vL E) (vG E) 1 _ _  hm) q314 q317 q65 md_X6_wrong (Nat.le_of_ble_eq_true rfl) (Nat.le_of_ble_eq_true rfl) rfl rfl (Nat.le_of_ble_eq_true rfl) dX6_season_23 (fun v4 S3 hm => ?_)
    exact hR _ _ _ _ dX6_season_26 hm
  · refine cf_iload_n C dX6_season_11 rfl 2 rfl ?_
    refine cf_iconst C dX6_season_12 (v := 0) rfl ?_
    refine cf_bipush C dX6_season_13 (v := 9) rfl ?_
    refine cf_callSi C [.int x2, .int 0, .int 9] [] q312 (c_X6_within (vL E) (vG E) x2 0 9 _ _  hm) q311 q313 q65 md_X6_within (Nat.le_of_ble_eq_true rfl) (Nat.le_of_ble_eq_true rfl) rfl rfl (Nat.le_of_ble_eq_true rfl) dX6_season_15 (fun v6 S5 hm => ?_)
    refine cf_if_ne C (tgt := 27) dX6_season_18 (by decide) hm (fun hm => ?_) (fun hm => ?_)
    · refine cf_aload_n C dX6_season_27 rfl 0 rfl ?_
      refine gf_6_2 C inX6 okC_0 q278 dX6_season_28 ?_
      refine gf_4_9 C inX4 okC_3 q140 dX6_season_31 ?_
      refine cf_iload_n C dX6_season_34 rfl 1 rfl ?_
      refine cf_iald C (okA_of 9 okC_3 rfl (by decide) (by decide) (by decide)) dX6_season_35 hm (fun hm => ?_)
      refine cf_nmI hm (fun v7 hm => ?_)
      refine cf_istore_n C (L1 := [(3, .int v7), (0, .ref (adr (vG E) 0 0)), (1, .int x1), (2, .int x2)]) dX6_season_36 rfl (by decide) rfl ?_
      refine cf_aload_n C dX6_season_37 rfl 1 rfl ?_
      refine gf_6_2 C inX6 okC_0 q278 dX6_season_38 ?_
      refine gf_4_9 C inX4 okC_3 q140 dX6_season_41 ?_
      refine cf_iload_n C dX6_season_44 rfl 2 rfl ?_
      refine cf_iload_n C dX6_season_45 rfl 3 rfl ?_
      refine cf_iast C (okA_of 9 okC_3 rfl (by decide) (by decide) (by decide)) dX6_season_46 hm (fun hm => ?_)
      refine cf_nmS hm (fun S8 hm => ?_)
      refine cf_iload_n C dX6_season_47 rfl 0 rfl ?_
      exact hR _ _ _ _ dX6_season_48 hm
    · refine cf_aload_n C dX6_season_21 rfl 0 rfl ?_
      refine cf_iconst C dX6_season_22 (v := 1) rfl ?_
      refine cf_callVi C [.int 1] [] okC_0.1 (ocell_6 okC_0.2.1) rfl q316 q0 (c_X6_wrong (vL E) (vG E) 1 _ _  hm) q314 q317 q65 md_X6_wrong (Nat.le_of_ble_eq_true rfl) (Nat.le_of_ble_eq_true rfl) rfl rfl (Nat.le_of_ble_eq_true rfl) dX6_season_23 (fun v10 S9 hm => ?_)
      exact hR _ _ _ _ dX6_season_26 hm

def E_X6_rules  (S : St) (Q : Int32 → St → Prop) : Prop := E_X4_sayer 3 S (fun v2 S1 => if 0 ≤ v2 then (Q v2 S1) else (E_X6_wrong 2 S1 (fun v4 S3 => Q v4 S3)))
set_option maxRecDepth 20000 in
theorem c_X6_rules (l : Launch) (G : GX)  (S : St) (Q : Int32 → St → Prop)  (hm : E_X6_rules  S Q) : CTi l yX6_rules (Cond.code yX6_rules cX6_rules 2 (some .int) :: AW) { frames := 5, cells := 0, slots := 0, locals := 112 } G enC [.ref (adr G 0 0)] S Q := by
  refine ct_start_i (by decide) enC_nd (Nat.le_of_ble_eq_true rfl) (fun E hG hl C hR => ?_)
  subst hG
  subst hl
  show CF E S 0 [(0, .ref (adr (vG E) 0 0))] []
  unfold E_X6_rules at hm
  refine cf_aload_n C dX6_rules_0 rfl 0 rfl ?_
  refine gf_6_2 C inX6 okC_0 q278 dX6_rules_1 ?_
  refine cf_callVi C [] [] okC_3.1 (ocell_4 okC_3.2.1) rfl q366 q367 (c_X4_sayer (vL E) (vG E) 3 _ _ okC_3 hm) q365 q368 q68 md_X4_sayer (Nat.le_of_ble_eq_true rfl) (Nat.le_of_ble_eq_true rfl) rfl rfl (Nat.le_of_ble_eq_true rfl) dX6_rules_4 (fun v2 S1 hm => ?_)
  refine cf_istore_n C (L1 := [(1, .int v2), (0, .ref (adr (vG E) 0 0))]) dX6_rules_7 rfl (by decide) rfl ?_
  refine cf_iload_n C dX6_rules_8 rfl 0 rfl ?_
  refine cf_if_ge C (tgt := 20) dX6_rules_9 (by decide) hm (fun hm => ?_) (fun hm => ?_)
  · refine cf_iload_n C dX6_rules_20 rfl 0 rfl ?_
    exact hR _ _ _ _ dX6_rules_21 hm
  · refine cf_aload_n C dX6_rules_12 rfl 1 rfl ?_
    refine cf_iconst C dX6_rules_13 (v := 2) rfl ?_
    refine cf_callVi C [.int 2] [] okC_0.1 (ocell_6 okC_0.2.1) rfl q316 q0 (c_X6_wrong (vL E) (vG E) 2 _ _  hm) q314 q317 q65 md_X6_wrong (Nat.le_of_ble_eq_true rfl) (Nat.le_of_ble_eq_true rfl) rfl rfl (Nat.le_of_ble_eq_true rfl) dX6_rules_14 (fun v4 S3 hm => ?_)
    refine cf_goto C (tgt := 21) dX6_rules_17 (by decide) ?_
    exact hR _ _ _ _ dX6_rules_21 hm

def L_X6_feed_39    (Q : Int32 → St → Prop) : Nat → Int64 → Int32 → Int32 → St → Prop
  | 0 => fun _ _ _ _ => False
  | n + 1 => fun x1 x3 x4 S => if x3 ≤ x4 then (nmS (stI S 1 4 ((S.1 1 4) + x3)) (fun S3 => Q (S3.1 1 4) S3)) else (vp_in ((S.1 1 4) + x4) 60 ∧ (nmS (stR S 1 3 (upd (S.2 1 3) ((S.1 1 4) + x4).toNatClampNeg ((((x1.toUInt64 >>> ((8 * x4).toInt64.toUInt64 &&& Int64.toUInt64 63)).toInt64).toInt32) &&& 255))) (fun S4 => nmI (x4 + 1) (fun v5 => L_X6_feed_39 Q n x1 x3 v5 S4))))
set_option maxRecDepth 20000 in
theorem w_L_X6_feed_39 {E : EV} {Q : Int32 → St → Prop}   (C : CX E cX6_feed RX6 5 enC 1 22)   (hR : RTi E cX6_feed Q) : ∀ (n : Nat) (x1 : Int64) (x3 : Int32) (x4 : Int32) (S : St), L_X6_feed_39 Q n x1 x3 x4 S → CF E S 39 [(0, .ref (adr (vG E) 0 0)), (1, .long (x1)), (3, .int x3), (4, .int x4)] [] := by
  intro n
  induction n with
  | zero =>
    intro x1 x3 x4 S hm
    exact hm.elim
  | succ n ih =>
    intro x1 x3 x4 S hm
    unfold L_X6_feed_39 at hm
    refine cf_iload C dX6_feed_39 3 rfl ?_
    refine cf_iload_n C dX6_feed_41 rfl 2 rfl ?_
    refine cf_icmp_ge C (tgt := 81) dX6_feed_42 (by decide) hm (fun hm => ?_) (fun hm => ?_)
    · refine cf_aload_n C dX6_feed_81 rfl 0 rfl ?_
      refine gf_6_0 C inX6 okC_0 q276 dX6_feed_82 ?_
      refine cf_dup C dX6_feed_85 rfl ?_
      refine gf_0_4 C inX0 okC_1 q174 dX6_feed_86 ?_
      refine cf_iload_n C dX6_feed_89 rfl 2 rfl ?_
      refine cf_iadd C dX6_feed_90 ?_
      refine pf_0_4 C inX0 okC_1 q174 dX6_feed_91 ?_
      refine cf_nmS hm (fun S3 hm => ?_)
      refine cf_aload_n C dX6_feed_94 rfl 0 rfl ?_
      refine gf_6_0 C inX6 okC_0 q276 dX6_feed_95 ?_
      refine gf_0_4 C inX0 okC_1 q174 dX6_feed_98 ?_
      exact hR _ _ _ _ dX6_feed_101 hm
    · refine cf_aload_n C dX6_feed_45 rfl 0 rfl ?_
      refine gf_6_0 C inX6 okC_0 q276 dX6_feed_46 ?_
      refine gf_0_3 C inX0 okC_1 q172 dX6_feed_49 ?_
      refine cf_aload_n C dX6_feed_52 rfl 0 rfl ?_
      refine gf_6_0 C inX6 okC_0 q276 dX6_feed_53 ?_
      refine gf_0_4 C inX0 okC_1 q174 dX6_feed_56 ?_
      refine cf_iload C dX6_feed_59 3 rfl ?_
      refine cf_iadd C dX6_feed_61 ?_
      refine cf_lload_n C dX6_feed_62 rfl 1 rfl ?_
      refine cf_bipush C dX6_feed_63 (v := 8) rfl ?_
      refine cf_iload C dX6_feed_65 3 rfl ?_
      refine cf_imul C dX6_feed_67 ?_
      refine cf_lushr C dX6_feed_68 ?_
      refine cf_l2i C dX6_feed_69 ?_
      refine cf_sipush C dX6_feed_70 (v := 255) rfl ?_
      refine cf_iand C dX6_feed_73 ?_
      refine cf_iast C (okA_of 3 okC_1 rfl (by decide) (by decide) (by decide)) dX6_feed_74 hm (fun hm => ?_)
      refine cf_nmS hm (fun S4 hm => ?_)
      refine cf_iincN C (L1 := fun v5 => [(4, .int v5), (0, .ref (adr (vG E) 0 0)), (1, .long (x1)), (3, .int x3)]) dX6_feed_75 3 rfl rfl (by decide) (fun _ => rfl) hm (fun v5 hm => ?_)
      refine cf_goto C (tgt := 39) dX6_feed_78 (by decide) ?_
      refine cf_sub C [1, 2, 3, 0] rfl ?_
      exact ih x1 x3 v5 _ hm
def E_X6_feed (x1 : Int64) (x3 : Int32) (S : St) (Q : Int32 → St → Prop) : Prop := E_X6_within x3 1 8 S (fun v2 S1 => if v2 = 0 then (E_X6_wrong 1 S1 (fun v9 S8 => Q v9 S8)) else (if ((S1.1 1 4) + x3) ≤ 60 then (∃ k, L_X6_feed_39 Q k x1 x3 0 S1) else (E_X6_wrong 4 S1 (fun v7 S6 => Q v7 S6))))
set_option maxRecDepth 20000 in
theorem c_X6_feed (l : Launch) (G : GX) (x1 : Int64) (x3 : Int32) (S : St) (Q : Int32 → St → Prop)  (hm : E_X6_feed x1 x3 S Q) : CTi l yX6_feed (Cond.code yX6_feed cX6_feed 5 (some .int) :: AW) { frames := 1, cells := 0, slots := 0, locals := 22 } G enC [.ref (adr G 0 0), .long (x1), .int x3] S Q := by
  refine ct_start_i (by decide) enC_nd (Nat.le_of_ble_eq_true rfl) (fun E hG hl C hR => ?_)
  subst hG
  subst hl
  show CF E S 0 [(0, .ref (adr (vG E) 0 0)), (1, .long (x1)), (3, .int x3)] []
  unfold E_X6_feed at hm
  refine cf_iload_n C dX6_feed_0 rfl 2 rfl ?_
  refine cf_iconst C dX6_feed_1 (v := 1) rfl ?_
  refine cf_bipush C dX6_feed_2 (v := 8) rfl ?_
  refine cf_callSi C [.int x3, .int 1, .int 8] [] q312 (c_X6_within (vL E) (vG E) x3 1 8 _ _  hm) q311 q313 q65 md_X6_within (Nat.le_of_ble_eq_true rfl) (Nat.le_of_ble_eq_true rfl) rfl rfl (Nat.le_of_ble_eq_true rfl) dX6_feed_4 (fun v2 S1 hm => ?_)
  refine cf_if_ne C (tgt := 16) dX6_feed_7 (by decide) hm (fun hm => ?_) (fun hm => ?_)
  · refine cf_aload_n C dX6_feed_16 rfl 0 rfl ?_
    refine gf_6_0 C inX6 okC_0 q276 dX6_feed_17 ?_
    refine gf_0_4 C inX0 okC_1 q174 dX6_feed_20 ?_
    refine cf_iload_n C dX6_feed_23 rfl 2 rfl ?_
    refine cf_iadd C dX6_feed_24 ?_
    refine cf_bipush C dX6_feed_25 (v := 60) rfl ?_
    refine cf_icmp_le C (tgt := 36) dX6_feed_27 (by decide) hm (fun hm => ?_) (fun hm => ?_)
    · refine cf_iconst C dX6_feed_36 (v := 0) rfl ?_
      refine cf_istore C (L1 := [(4, .int 0), (0, .ref (adr (vG E) 0 0)), (1, .long (x1)), (3, .int x3)]) dX6_feed_37 (by decide) rfl ?_
      refine cf_sub C [1, 2, 3, 0] rfl ?_
      obtain ⟨k, hm⟩ := hm
      exact w_L_X6_feed_39 C hR k x1 x3 0 _ hm
    · refine cf_aload_n C dX6_feed_30 rfl 0 rfl ?_
      refine cf_iconst C dX6_feed_31 (v := 4) rfl ?_
      refine cf_callVi C [.int 4] [] okC_0.1 (ocell_6 okC_0.2.1) rfl q316 q0 (c_X6_wrong (vL E) (vG E) 4 _ _  hm) q314 q317 q65 md_X6_wrong (Nat.le_of_ble_eq_true rfl) (Nat.le_of_ble_eq_true rfl) rfl rfl (Nat.le_of_ble_eq_true rfl) dX6_feed_32 (fun v7 S6 hm => ?_)
      exact hR _ _ _ _ dX6_feed_35 hm
  · refine cf_aload_n C dX6_feed_10 rfl 0 rfl ?_
    refine cf_iconst C dX6_feed_11 (v := 1) rfl ?_
    refine cf_callVi C [.int 1] [] okC_0.1 (ocell_6 okC_0.2.1) rfl q316 q0 (c_X6_wrong (vL E) (vG E) 1 _ _  hm) q314 q317 q65 md_X6_wrong (Nat.le_of_ble_eq_true rfl) (Nat.le_of_ble_eq_true rfl) rfl rfl (Nat.le_of_ble_eq_true rfl) dX6_feed_12 (fun v9 S8 hm => ?_)
    exact hR _ _ _ _ dX6_feed_15 hm

def E_X6_isUse (x0 : Int32) (S : St) (Q : Int32 → St → Prop) : Prop := E_X6_within x0 0 1 S (fun v2 S1 => (v2 = 0 ∨ v2 = 1) ∧ (Q v2 S1))
set_option maxRecDepth 20000 in
theorem c_X6_isUse (l : Launch) (G : GX) (x0 : Int32) (S : St) (Q : Int32 → St → Prop)  (hm : E_X6_isUse x0 S Q) : CTi l yX6_isUse (Cond.code yX6_isUse cX6_isUse 1 (some .boolean) :: AW) { frames := 1, cells := 0, slots := 0, locals := 22 } G enC [.int x0] S Q := by
  refine ct_start_z (by decide) enC_nd (Nat.le_of_ble_eq_true rfl) (fun E hG hl C hR => ?_)
  subst hG
  subst hl
  show CF E S 0 [(0, .int x0)] []
  unfold E_X6_isUse at hm
  refine cf_iload_n C dX6_isUse_0 rfl 0 rfl ?_
  refine cf_iconst C dX6_isUse_1 (v := 0) rfl ?_
  refine cf_iconst C dX6_isUse_2 (v := 1) rfl ?_
  refine cf_callSi C [.int x0, .int 0, .int 1] [] q312 (c_X6_within (vL E) (vG E) x0 0 1 _ _  hm) q311 q313 q65 md_X6_within (Nat.le_of_ble_eq_true rfl) (Nat.le_of_ble_eq_true rfl) rfl rfl (Nat.le_of_ble_eq_true rfl) dX6_isUse_3 (fun v2 S1 hm => ?_)
  exact hR _ _ _ _ dX6_isUse_6 hm.1 hm.2

def E_X1_forget (o : Nat) (S : St) (Q : Int32 → St → Prop) : Prop := if (S.1 o 4) ≤ 0 then (nmS (stI S o 4 0) (fun S1 => Q 0 S1)) else (nmS (stI S o 4 0) (fun S2 => Q 1 S2))
set_option maxRecDepth 20000 in
theorem c_X1_forget (l : Launch) (G : GX) (o : Nat) (S : St) (Q : Int32 → St → Prop) (ho : okO enC o 1) (hm : E_X1_forget o S Q) : CTi l yX1_forget (Cond.code yX1_forget cX1_forget 2 (some .boolean) :: AW) { frames := 0, cells := 0, slots := 0, locals := 0 } G enC [.ref (adr G o 0)] S Q := by
  refine ct_start_z (by decide) enC_nd (Nat.le_of_ble_eq_true rfl) (fun E hG hl C hR => ?_)
  subst hG
  subst hl
  show CF E S 0 [(0, .ref (adr (vG E) o 0))] []
  unfold E_X1_forget at hm
  refine cf_aload_n C dX1_forget_0 rfl 0 rfl ?_
  refine gf_1_4 C inX1 ho q100 dX1_forget_1 ?_
  refine cf_if_le C (tgt := 11) dX1_forget_4 (by decide) hm (fun hm => ?_) (fun hm => ?_)
  · refine cf_iconst C dX1_forget_11 (v := 0) rfl ?_
    refine cf_istore_n C (L1 := [(1, .int 0), (0, .ref (adr (vG E) o 0))]) dX1_forget_12 rfl (by decide) rfl ?_
    refine cf_aload_n C dX1_forget_13 rfl 1 rfl ?_
    refine cf_iconst C dX1_forget_14 (v := 0) rfl ?_
    refine pf_1_4 C inX1 ho q100 dX1_forget_15 ?_
    refine cf_nmS hm (fun S1 hm => ?_)
    refine cf_iload_n C dX1_forget_18 rfl 0 rfl ?_
    exact hR _ _ _ _ dX1_forget_19 (Or.inl rfl) hm
  · refine cf_iconst C dX1_forget_7 (v := 1) rfl ?_
    refine cf_goto C (tgt := 12) dX1_forget_8 (by decide) ?_
    refine cf_istore_n C (L1 := [(1, .int 1), (0, .ref (adr (vG E) o 0))]) dX1_forget_12 rfl (by decide) rfl ?_
    refine cf_aload_n C dX1_forget_13 rfl 1 rfl ?_
    refine cf_iconst C dX1_forget_14 (v := 0) rfl ?_
    refine pf_1_4 C inX1 ho q100 dX1_forget_15 ?_
    refine cf_nmS hm (fun S2 hm => ?_)
    refine cf_iload_n C dX1_forget_18 rfl 0 rfl ?_
    exact hR _ _ _ _ dX1_forget_19 (Or.inr rfl) hm

def E_X2_next  (S : St) (Q : Int32 → St → Prop) : Prop := if (S.1 11 2) ≤ (S.1 11 3) then (Q (-1) S) else (vp_in (S.1 11 3) 60 ∧ (Q (S.2 11 1 (S.1 11 3).toNatClampNeg) S))
set_option maxRecDepth 20000 in
theorem c_X2_next (l : Launch) (G : GX)  (S : St) (Q : Int32 → St → Prop)  (hm : E_X2_next  S Q) : CTi l yX2_next (Cond.code yX2_next cX2_next 1 (some .int) :: AW) { frames := 0, cells := 0, slots := 0, locals := 0 } G enC [.ref (adr G 11 0)] S Q := by
  refine ct_start_i (by decide) enC_nd (Nat.le_of_ble_eq_true rfl) (fun E hG hl C hR => ?_)
  subst hG
  subst hl
  show CF E S 0 [(0, .ref (adr (vG E) 11 0))] []
  unfold E_X2_next at hm
  refine cf_aload_n C dX2_next_0 rfl 0 rfl ?_
  refine gf_2_3 C inX2 okC_11 q212 dX2_next_1 ?_
  refine cf_aload_n C dX2_next_4 rfl 0 rfl ?_
  refine gf_2_2 C inX2 okC_11 q211 dX2_next_5 ?_
  refine cf_icmp_ge C (tgt := 23) dX2_next_8 (by decide) hm (fun hm => ?_) (fun hm => ?_)
  · refine cf_iconst C dX2_next_23 (v := (-1)) rfl ?_
    exact hR _ _ _ _ dX2_next_24 hm
  · refine cf_aload_n C dX2_next_11 rfl 0 rfl ?_
    refine gf_2_1 C inX2 okC_11 q210 dX2_next_12 ?_
    refine cf_aload_n C dX2_next_15 rfl 0 rfl ?_
    refine gf_2_3 C inX2 okC_11 q212 dX2_next_16 ?_
    refine cf_iald C (okA_of 1 okC_11 rfl (by decide) (by decide) (by decide)) dX2_next_19 hm (fun hm => ?_)
    refine cf_goto C (tgt := 24) dX2_next_20 (by decide) ?_
    exact hR _ _ _ _ dX2_next_24 hm

def E_X2_levelOf (x0 : Int32) (S : St) (Q : Int32 → St → Prop) : Prop := if x0 = 37 then (Q 4 S) else (if x0 = 38 then (Q 1 S) else (if x0 = 42 then (Q 4 S) else (if x0 = 43 then (Q 3 S) else (if x0 = 45 then (Q 3 S) else (if x0 = 47 then (Q 4 S) else (if x0 = 60 then (Q 2 S) else (if x0 = 61 then (Q 2 S) else (if x0 = 62 then (Q 2 S) else (if x0 = 124 then (Q 0 S) else (Q (-1) S))))))))))
set_option maxRecDepth 20000 in
theorem c_X2_levelOf (l : Launch) (G : GX) (x0 : Int32) (S : St) (Q : Int32 → St → Prop)  (hm : E_X2_levelOf x0 S Q) : CTi l yX2_levelOf (Cond.code yX2_levelOf cX2_levelOf 1 (some .int) :: AW) { frames := 0, cells := 0, slots := 0, locals := 0 } G enC [.int x0] S Q := by
  refine ct_start_i (by decide) enC_nd (Nat.le_of_ble_eq_true rfl) (fun E hG hl C hR => ?_)
  subst hG
  subst hl
  show CF E S 0 [(0, .int x0)] []
  unfold E_X2_levelOf at hm
  refine cf_iload_n C dX2_levelOf_0 rfl 0 rfl ?_
  rcases ifc hm with ⟨hx, hm⟩ | ⟨h1_37, hm⟩
  · refine cf_lk C dX2_levelOf_1 (by decide +kernel) (off := 99) (by rw [hx]; rfl) (tgt := 100) (by decide) ?_
    refine cf_iconst C dX2_levelOf_100 (v := 4) rfl ?_
    exact hR _ _ _ _ dX2_levelOf_101 hm
  rcases ifc hm with ⟨hx, hm⟩ | ⟨h1_38, hm⟩
  · refine cf_lk C dX2_levelOf_1 (by decide +kernel) (off := 93) (by rw [hx]; rfl) (tgt := 94) (by decide) ?_
    refine cf_iconst C dX2_levelOf_94 (v := 1) rfl ?_
    exact hR _ _ _ _ dX2_levelOf_95 hm
  rcases ifc hm with ⟨hx, hm⟩ | ⟨h1_42, hm⟩
  · refine cf_lk C dX2_levelOf_1 (by decide +kernel) (off := 99) (by rw [hx]; rfl) (tgt := 100) (by decide) ?_
    refine cf_iconst C dX2_levelOf_100 (v := 4) rfl ?_
    exact hR _ _ _ _ dX2_levelOf_101 hm
  rcases ifc hm with ⟨hx, hm⟩ | ⟨h1_43, hm⟩
  · refine cf_lk C dX2_levelOf_1 (by decide +kernel) (off := 97) (by rw [hx]; rfl) (tgt := 98) (by decide) ?_
    refine cf_iconst C dX2_levelOf_98 (v := 3) rfl ?_
    exact hR _ _ _ _ dX2_levelOf_99 hm
  rcases ifc hm with ⟨hx, hm⟩ | ⟨h1_45, hm⟩
  · refine cf_lk C dX2_levelOf_1 (by decide +kernel) (off := 97) (by rw [hx]; rfl) (tgt := 98) (by decide) ?_
    refine cf_iconst C dX2_levelOf_98 (v := 3) rfl ?_
    exact hR _ _ _ _ dX2_levelOf_99 hm
  rcases ifc hm with ⟨hx, hm⟩ | ⟨h1_47, hm⟩
  · refine cf_lk C dX2_levelOf_1 (by decide +kernel) (off := 99) (by rw [hx]; rfl) (tgt := 100) (by decide) ?_
    refine cf_iconst C dX2_levelOf_100 (v := 4) rfl ?_
    exact hR _ _ _ _ dX2_levelOf_101 hm
  rcases ifc hm with ⟨hx, hm⟩ | ⟨h1_60, hm⟩
  · refine cf_lk C dX2_levelOf_1 (by decide +kernel) (off := 95) (by rw [hx]; rfl) (tgt := 96) (by decide) ?_
    refine cf_iconst C dX2_levelOf_96 (v := 2) rfl ?_
    exact hR _ _ _ _ dX2_levelOf_97 hm
  rcases ifc hm with ⟨hx, hm⟩ | ⟨h1_61, hm⟩
  · refine cf_lk C dX2_levelOf_1 (by decide +kernel) (off := 95) (by rw [hx]; rfl) (tgt := 96) (by decide) ?_
    refine cf_iconst C dX2_levelOf_96 (v := 2) rfl ?_
    exact hR _ _ _ _ dX2_levelOf_97 hm
  rcases ifc hm with ⟨hx, hm⟩ | ⟨h1_62, hm⟩
  · refine cf_lk C dX2_levelOf_1 (by decide +kernel) (off := 95) (by rw [hx]; rfl) (tgt := 96) (by decide) ?_
    refine cf_iconst C dX2_levelOf_96 (v := 2) rfl ?_
    exact hR _ _ _ _ dX2_levelOf_97 hm
  rcases ifc hm with ⟨hx, hm⟩ | ⟨h1_124, hm⟩
  · refine cf_lk C dX2_levelOf_1 (by decide +kernel) (off := 91) (by rw [hx]; rfl) (tgt := 92) (by decide) ?_
    refine cf_iconst C dX2_levelOf_92 (v := 0) rfl ?_
    exact hR _ _ _ _ dX2_levelOf_93 hm
  refine cf_lk C dX2_levelOf_1 (by decide +kernel) (off := 101) (show Op.lookupswitch.offset [(37, 99), (38, 93), (42, 99), (43, 97), (45, 97), (47, 99), (60, 95), (61, 95), (62, 95), (124, 91)] 101 _ = _ from ((lv_osw h1_37 rfl).trans ((lv_osw h1_38 rfl).trans ((lv_osw h1_42 rfl).trans ((lv_osw h1_43 rfl).trans ((lv_osw h1_45 rfl).trans ((lv_osw h1_47 rfl).trans ((lv_osw h1_60 rfl).trans ((lv_osw h1_61 rfl).trans ((lv_osw h1_62 rfl).trans ((lv_osw h1_124 rfl).trans rfl))))))))))) (tgt := 102) (by decide) ?_
  refine cf_iconst C dX2_levelOf_102 (v := (-1)) rfl ?_
  exact hR _ _ _ _ dX2_levelOf_103 hm

def E_X1_add (o : Nat) (x1 : Int32) (S : St) (Q : St → Prop) : Prop := if 60 ≤ (S.1 o 4) then (Q S) else (vp_in (S.1 o 4) 60 ∧ (nmS (stR S o 2 (upd (S.2 o 2) (S.1 o 4).toNatClampNeg x1)) (fun S1 => nmS (stI S1 o 4 ((S1.1 o 4) + 1)) (fun S2 => Q S2))))
set_option maxRecDepth 20000 in
theorem c_X1_add (l : Launch) (G : GX) (o : Nat) (x1 : Int32) (S : St) (Q : St → Prop) (ho : okO enC o 1) (hm : E_X1_add o x1 S Q) : CTv l yX1_add (Cond.code yX1_add cX1_add 2 none :: AW) { frames := 0, cells := 0, slots := 0, locals := 0 } G enC [.ref (adr G o 0), .int x1] S Q := by
  refine ct_start_v (by decide) enC_nd (Nat.le_of_ble_eq_true rfl) (fun E hG hl C hR => ?_)
  subst hG
  subst hl
  show CF E S 0 [(0, .ref (adr (vG E) o 0)), (1, .int x1)] []
  unfold E_X1_add at hm
  refine cf_aload_n C dX1_add_0 rfl 0 rfl ?_
  refine gf_1_4 C inX1 ho q100 dX1_add_1 ?_
  refine cf_bipush C dX1_add_4 (v := 60) rfl ?_
  refine cf_icmp_ge C (tgt := 29) dX1_add_6 (by decide) hm (fun hm => ?_) (fun hm => ?_)
  · exact hR _ _ _ dX1_add_29 hm
  · refine cf_aload_n C dX1_add_9 rfl 0 rfl ?_
    refine gf_1_2 C inX1 ho q98 dX1_add_10 ?_
    refine cf_aload_n C dX1_add_13 rfl 0 rfl ?_
    refine gf_1_4 C inX1 ho q100 dX1_add_14 ?_
    refine cf_iload_n C dX1_add_17 rfl 1 rfl ?_
    refine cf_iast C (okA_of 2 ho rfl (by decide) (by decide) (by decide)) dX1_add_18 hm (fun hm => ?_)
    refine cf_nmS hm (fun S1 hm => ?_)
    refine cf_aload_n C dX1_add_19 rfl 0 rfl ?_
    refine cf_dup C dX1_add_20 rfl ?_
    refine gf_1_4 C inX1 ho q100 dX1_add_21 ?_
    refine cf_iconst C dX1_add_24 (v := 1) rfl ?_
    refine cf_iadd C dX1_add_25 ?_
    refine pf_1_4 C inX1 ho q100 dX1_add_26 ?_
    refine cf_nmS hm (fun S2 hm => ?_)
    exact hR _ _ _ dX1_add_29 hm

def L_X2_nameOf_2    (Q : Int32 → St → Prop) : Nat → Int32 → Int32 → St → Prop
  | 0 => fun _ _ _ => False
  | n + 1 => fun x1 x2 S => if 3 ≤ x2 then (Q (-1) S) else (vp_in (((S.1 11 4) * 3) + x2) 6 ∧ (if (sNAM (((S.1 11 4) * 3) + x2).toNatClampNeg) = x1 then (Q x2 S) else (nmI (x2 + 1) (fun v1 => L_X2_nameOf_2 Q n x1 v1 S))))
set_option maxRecDepth 20000 in
theorem w_L_X2_nameOf_2 {E : EV} {Q : Int32 → St → Prop}   (C : CX E cX2_nameOf RX2 3 enC 0 0)   (hR : RTi E cX2_nameOf Q) : ∀ (n : Nat) (x1 : Int32) (x2 : Int32) (S : St), L_X2_nameOf_2 Q n x1 x2 S → CF E S 2 [(0, .ref (adr (vG E) 11 0)), (1, .int x1), (2, .int x2)] [] := by
  intro n
  induction n with
  | zero =>
    intro x1 x2 S hm
    exact hm.elim
  | succ n ih =>
    intro x1 x2 S hm
    unfold L_X2_nameOf_2 at hm
    refine cf_iload_n C dX2_nameOf_2 rfl 2 rfl ?_
    refine cf_iconst C dX2_nameOf_3 (v := 3) rfl ?_
    refine cf_icmp_ge C (tgt := 31) dX2_nameOf_4 (by decide) hm (fun hm => ?_) (fun hm => ?_)
    · refine cf_iconst C dX2_nameOf_31 (v := (-1)) rfl ?_
      exact hR _ _ _ _ dX2_nameOf_32 hm
    · refine cf_gsN_NAMES C dX2_nameOf_7 ?_
      refine cf_aload_n C dX2_nameOf_10 rfl 0 rfl ?_
      refine gf_2_4 C inX2 okC_11 q213 dX2_nameOf_11 ?_
      refine cf_iconst C dX2_nameOf_14 (v := 3) rfl ?_
      refine cf_imul C dX2_nameOf_15 ?_
      refine cf_iload_n C dX2_nameOf_16 rfl 2 rfl ?_
      refine cf_iadd C dX2_nameOf_17 ?_
      refine cf_sl_NAMES C dX2_nameOf_18 hm (fun hm => ?_)
      refine cf_iload_n C dX2_nameOf_19 rfl 1 rfl ?_
      refine cf_icmp_ne C (tgt := 25) dX2_nameOf_20 (by decide) hm (fun hm => ?_) (fun hm => ?_)
      · refine cf_iincN C (L1 := fun v1 => [(2, .int v1), (0, .ref (adr (vG E) 11 0)), (1, .int x1)]) dX2_nameOf_25 2 rfl rfl (by decide) (fun _ => rfl) hm (fun v1 hm => ?_)
        refine cf_goto C (tgt := 2) dX2_nameOf_28 (by decide) ?_
        refine cf_sub C [1, 2, 0] rfl ?_
        exact ih x1 v1 _ hm
      · refine cf_iload_n C dX2_nameOf_23 rfl 2 rfl ?_
        exact hR _ _ _ _ dX2_nameOf_24 hm
def E_X2_nameOf (x1 : Int32) (S : St) (Q : Int32 → St → Prop) : Prop := ∃ k, L_X2_nameOf_2 Q k x1 0 S
set_option maxRecDepth 20000 in
theorem c_X2_nameOf (l : Launch) (G : GX) (x1 : Int32) (S : St) (Q : Int32 → St → Prop)  (hm : E_X2_nameOf x1 S Q) : CTi l yX2_nameOf (Cond.code yX2_nameOf cX2_nameOf 3 (some .int) :: AW) { frames := 0, cells := 0, slots := 0, locals := 0 } G enC [.ref (adr G 11 0), .int x1] S Q := by
  refine ct_start_i (by decide) enC_nd (Nat.le_of_ble_eq_true rfl) (fun E hG hl C hR => ?_)
  subst hG
  subst hl
  show CF E S 0 [(0, .ref (adr (vG E) 11 0)), (1, .int x1)] []
  unfold E_X2_nameOf at hm
  refine cf_iconst C dX2_nameOf_0 (v := 0) rfl ?_
  refine cf_istore_n C (L1 := [(2, .int 0), (0, .ref (adr (vG E) 11 0)), (1, .int x1)]) dX2_nameOf_1 rfl (by decide) rfl ?_
  refine cf_sub C [1, 2, 0] rfl ?_
  obtain ⟨k, hm⟩ := hm
  exact w_L_X2_nameOf_2 C hR k x1 0 _ hm

def E_X2_isDigit (x0 : Int32) (S : St) (Q : Int32 → St → Prop) : Prop := if x0 < 48 then (Q 0 S) else (if 57 < x0 then (Q 0 S) else (Q 1 S))
set_option maxRecDepth 20000 in
theorem c_X2_isDigit (l : Launch) (G : GX) (x0 : Int32) (S : St) (Q : Int32 → St → Prop)  (hm : E_X2_isDigit x0 S Q) : CTi l yX2_isDigit (Cond.code yX2_isDigit cX2_isDigit 1 (some .boolean) :: AW) { frames := 0, cells := 0, slots := 0, locals := 0 } G enC [.int x0] S Q := by
  refine ct_start_z (by decide) enC_nd (Nat.le_of_ble_eq_true rfl) (fun E hG hl C hR => ?_)
  subst hG
  subst hl
  show CF E S 0 [(0, .int x0)] []
  unfold E_X2_isDigit at hm
  refine cf_iload_n C dX2_isDigit_0 rfl 0 rfl ?_
  refine cf_bipush C dX2_isDigit_1 (v := 48) rfl ?_
  refine cf_icmp_lt C (tgt := 16) dX2_isDigit_3 (by decide) hm (fun hm => ?_) (fun hm => ?_)
  · refine cf_iconst C dX2_isDigit_16 (v := 0) rfl ?_
    exact hR _ _ _ _ dX2_isDigit_17 (Or.inl rfl) hm
  · refine cf_iload_n C dX2_isDigit_6 rfl 0 rfl ?_
    refine cf_bipush C dX2_isDigit_7 (v := 57) rfl ?_
    refine cf_icmp_gt C (tgt := 16) dX2_isDigit_9 (by decide) hm (fun hm => ?_) (fun hm => ?_)
    · refine cf_iconst C dX2_isDigit_16 (v := 0) rfl ?_
      exact hR _ _ _ _ dX2_isDigit_17 (Or.inl rfl) hm
    · refine cf_iconst C dX2_isDigit_12 (v := 1) rfl ?_
      refine cf_goto C (tgt := 17) dX2_isDigit_13 (by decide) ?_
      exact hR _ _ _ _ dX2_isDigit_17 (Or.inr rfl) hm

def L_X2_readNumber_4    (Q : St → Prop) : Nat → Int32 → Int32 → St → Prop
  | 0 => fun _ _ _ => False
  | n + 1 => fun x1 x2 S => if 4 ≤ x2 then (E_X1_add 10 x1 S (fun S1 => Q S1)) else (E_X2_next S (fun v3 S2 => E_X2_isDigit v3 S2 (fun v5 S4 => if v5 = 0 then (E_X1_add 10 x1 S4 (fun S6 => Q S6)) else (E_X2_next S4 (fun v8 S7 => nmI (((x1 * 10) + v8) - 48) (fun v9 => nmS (stI S7 11 3 ((S7.1 11 3) + 1)) (fun S10 => nmI (x2 + 1) (fun v11 => L_X2_readNumber_4 Q n v9 v11 S10))))))))
set_option maxRecDepth 20000 in
theorem w_L_X2_readNumber_4 {E : EV} {Q : St → Prop}   (C : CX E cX2_readNumber RX2 3 enC 1 21)   (hR : RTv E cX2_readNumber Q) : ∀ (n : Nat) (x1 : Int32) (x2 : Int32) (S : St), L_X2_readNumber_4 Q n x1 x2 S → CF E S 4 [(0, .ref (adr (vG E) 11 0)), (1, .int x1), (2, .int x2)] [] := by
  intro n
  induction n with
  | zero =>
    intro x1 x2 S hm
    exact hm.elim
  | succ n ih =>
    intro x1 x2 S hm
    unfold L_X2_readNumber_4 at hm
    refine cf_iload_n C dX2_readNumber_4 rfl 2 rfl ?_
    refine cf_iconst C dX2_readNumber_5 (v := 4) rfl ?_
    refine cf_icmp_ge C (tgt := 48) dX2_readNumber_6 (by decide) hm (fun hm => ?_) (fun hm => ?_)
    · refine cf_aload_n C dX2_readNumber_48 rfl 0 rfl ?_
      refine gf_2_0 C inX2 okC_11 q208 dX2_readNumber_49 ?_
      refine cf_iload_n C dX2_readNumber_52 rfl 1 rfl ?_
      refine cf_callVv C [.int x1] [] okC_10.1 (ocell_1 okC_10.2.1) rfl q445 q446 (c_X1_add (vL E) (vG E) 10 x1 _ _ okC_10 hm) q444 q447 q67 md_X1_add (Nat.le_of_ble_eq_true rfl) (Nat.le_of_ble_eq_true rfl) rfl rfl (Nat.le_of_ble_eq_true rfl) dX2_readNumber_53 (fun S1 hm => ?_)
      exact hR _ _ _ dX2_readNumber_56 hm
    · refine cf_aload_n C dX2_readNumber_9 rfl 0 rfl ?_
      refine cf_callVi C [] [] okC_11.1 (ocell_2 okC_11.2.1) rfl q429 q5 (c_X2_next (vL E) (vG E)  _ _  hm) q427 q430 q69 md_X2_next (Nat.le_of_ble_eq_true rfl) (Nat.le_of_ble_eq_true rfl) rfl rfl (Nat.le_of_ble_eq_true rfl) dX2_readNumber_10 (fun v3 S2 hm => ?_)
      refine cf_callSi C [.int v3] [] q438 (c_X2_isDigit (vL E) (vG E) v3 _ _  hm) q437 q439 q69 md_X2_isDigit (Nat.le_of_ble_eq_true rfl) (Nat.le_of_ble_eq_true rfl) rfl rfl (Nat.le_of_ble_eq_true rfl) dX2_readNumber_13 (fun v5 S4 hm => ?_)
      refine cf_if_eq C (tgt := 48) dX2_readNumber_16 (by decide) hm (fun hm => ?_) (fun hm => ?_)
      · refine cf_aload_n C dX2_readNumber_48 rfl 0 rfl ?_
        refine gf_2_0 C inX2 okC_11 q208 dX2_readNumber_49 ?_
        refine cf_iload_n C dX2_readNumber_52 rfl 1 rfl ?_
        refine cf_callVv C [.int x1] [] okC_10.1 (ocell_1 okC_10.2.1) rfl q445 q446 (c_X1_add (vL E) (vG E) 10 x1 _ _ okC_10 hm) q444 q447 q67 md_X1_add (Nat.le_of_ble_eq_true rfl) (Nat.le_of_ble_eq_true rfl) rfl rfl (Nat.le_of_ble_eq_true rfl) dX2_readNumber_53 (fun S6 hm => ?_)
        exact hR _ _ _ dX2_readNumber_56 hm
      · refine cf_iload_n C dX2_readNumber_19 rfl 1 rfl ?_
        refine cf_bipush C dX2_readNumber_20 (v := 10) rfl ?_
        refine cf_imul C dX2_readNumber_22 ?_
        refine cf_aload_n C dX2_readNumber_23 rfl 0 rfl ?_
        refine cf_callVi C [] [.int (x1 * 10)] okC_11.1 (ocell_2 okC_11.2.1) rfl q429 q5 (c_X2_next (vL E) (vG E)  _ _  hm) q427 q430 q69 md_X2_next (Nat.le_of_ble_eq_true rfl) (Nat.le_of_ble_eq_true rfl) rfl rfl (Nat.le_of_ble_eq_true rfl) dX2_readNumber_24 (fun v8 S7 hm => ?_)
        refine cf_iadd C dX2_readNumber_27 ?_
        refine cf_bipush C dX2_readNumber_28 (v := 48) rfl ?_
        refine cf_isub C dX2_readNumber_30 ?_
        refine cf_nmI hm (fun v9 hm => ?_)
        refine cf_istore_n C (L1 := [(1, .int v9), (0, .ref (adr (vG E) 11 0)), (2, .int x2)]) dX2_readNumber_31 rfl (by decide) rfl ?_
        refine cf_aload_n C dX2_readNumber_32 rfl 1 rfl ?_
        refine cf_dup C dX2_readNumber_33 rfl ?_
        refine gf_2_3 C inX2 okC_11 q212 dX2_readNumber_34 ?_
        refine cf_iconst C dX2_readNumber_37 (v := 1) rfl ?_
        refine cf_iadd C dX2_readNumber_38 ?_
        refine pf_2_3 C inX2 okC_11 q212 dX2_readNumber_39 ?_
        refine cf_nmS hm (fun S10 hm => ?_)
        refine cf_iincN C (L1 := fun v11 => [(2, .int v11), (1, .int v9), (0, .ref (adr (vG E) 11 0))]) dX2_readNumber_42 2 rfl rfl (by decide) (fun _ => rfl) hm (fun v11 hm => ?_)
        refine cf_goto C (tgt := 4) dX2_readNumber_45 (by decide) ?_
        refine cf_sub C [2, 1, 0] rfl ?_
        exact ih v9 v11 _ hm
def E_X2_readNumber  (S : St) (Q : St → Prop) : Prop := ∃ k, L_X2_readNumber_4 Q k 0 0 S
set_option maxRecDepth 20000 in
theorem c_X2_readNumber (l : Launch) (G : GX)  (S : St) (Q : St → Prop)  (hm : E_X2_readNumber  S Q) : CTv l yX2_readNumber (Cond.code yX2_readNumber cX2_readNumber 3 none :: AW) { frames := 1, cells := 0, slots := 0, locals := 21 } G enC [.ref (adr G 11 0)] S Q := by
  refine ct_start_v (by decide) enC_nd (Nat.le_of_ble_eq_true rfl) (fun E hG hl C hR => ?_)
  subst hG
  subst hl
  show CF E S 0 [(0, .ref (adr (vG E) 11 0))] []
  unfold E_X2_readNumber at hm
  refine cf_iconst C dX2_readNumber_0 (v := 0) rfl ?_
  refine cf_istore_n C (L1 := [(1, .int 0), (0, .ref (adr (vG E) 11 0))]) dX2_readNumber_1 rfl (by decide) rfl ?_
  refine cf_iconst C dX2_readNumber_2 (v := 0) rfl ?_
  refine cf_istore_n C (L1 := [(2, .int 0), (1, .int 0), (0, .ref (adr (vG E) 11 0))]) dX2_readNumber_3 rfl (by decide) rfl ?_
  refine cf_sub C [2, 1, 0] rfl ?_
  obtain ⟨k, hm⟩ := hm
  exact w_L_X2_readNumber_4 C hR k 0 0 _ hm

def E_X2_readClosing  (S : St) (Q : St → Prop) : Prop := if (S.1 11 5) = 0 then (E_X2_next S (fun v3 S2 => if v3 = 41 then (nmS (stI S2 11 3 ((S2.1 11 3) + 1)) (fun S5 => Q S5)) else (nmS (stI S2 11 5 1) (fun S4 => Q S4)))) else (nmS (stI S 11 5 1) (fun S1 => Q S1))
set_option maxRecDepth 20000 in
theorem c_X2_readClosing (l : Launch) (G : GX)  (S : St) (Q : St → Prop)  (hm : E_X2_readClosing  S Q) : CTv l yX2_readClosing (Cond.code yX2_readClosing cX2_readClosing 1 none :: AW) { frames := 1, cells := 0, slots := 0, locals := 20 } G enC [.ref (adr G 11 0)] S Q := by
  refine ct_start_v (by decide) enC_nd (Nat.le_of_ble_eq_true rfl) (fun E hG hl C hR => ?_)
  subst hG
  subst hl
  show CF E S 0 [(0, .ref (adr (vG E) 11 0))] []
  unfold E_X2_readClosing at hm
  refine cf_aload_n C dX2_readClosing_0 rfl 0 rfl ?_
  refine gf_2_5 C inX2 okC_11 q214 dX2_readClosing_1 ?_
  refine cf_if_ne C (tgt := 29) dX2_readClosing_4 (by decide) hm (fun hm => ?_) (fun hm => ?_)
  · refine cf_aload_n C dX2_readClosing_29 rfl 0 rfl ?_
    refine cf_iconst C dX2_readClosing_30 (v := 1) rfl ?_
    refine pf_2_5 C inX2 (Or.inr rfl) okC_11 q214 dX2_readClosing_31 ?_
    refine cf_nmS hm (fun S1 hm => ?_)
    exact hR _ _ _ dX2_readClosing_34 hm
  · refine cf_aload_n C dX2_readClosing_7 rfl 0 rfl ?_
    refine cf_callVi C [] [] okC_11.1 (ocell_2 okC_11.2.1) rfl q429 q5 (c_X2_next (vL E) (vG E)  _ _  hm) q427 q430 q69 md_X2_next (Nat.le_of_ble_eq_true rfl) (Nat.le_of_ble_eq_true rfl) rfl rfl (Nat.le_of_ble_eq_true rfl) dX2_readClosing_8 (fun v3 S2 hm => ?_)
    refine cf_bipush C dX2_readClosing_11 (v := 41) rfl ?_
    refine cf_icmp_ne C (tgt := 29) dX2_readClosing_13 (by decide) hm (fun hm => ?_) (fun hm => ?_)
    · refine cf_aload_n C dX2_readClosing_29 rfl 0 rfl ?_
      refine cf_iconst C dX2_readClosing_30 (v := 1) rfl ?_
      refine pf_2_5 C inX2 (Or.inr rfl) okC_11 q214 dX2_readClosing_31 ?_
      refine cf_nmS hm (fun S4 hm => ?_)
      exact hR _ _ _ dX2_readClosing_34 hm
    · refine cf_aload_n C dX2_readClosing_16 rfl 0 rfl ?_
      refine cf_dup C dX2_readClosing_17 rfl ?_
      refine gf_2_3 C inX2 okC_11 q212 dX2_readClosing_18 ?_
      refine cf_iconst C dX2_readClosing_21 (v := 1) rfl ?_
      refine cf_iadd C dX2_readClosing_22 ?_
      refine pf_2_3 C inX2 okC_11 q212 dX2_readClosing_23 ?_
      refine cf_nmS hm (fun S5 hm => ?_)
      refine cf_goto C (tgt := 34) dX2_readClosing_26 (by decide) ?_
      exact hR _ _ _ dX2_readClosing_34 hm

def L_X2_readLevel_34  (r_X2_readLevel : Int32 → Int32 → St → (St → Prop) → Prop) (r_X2_readQ : Int32 → St → (St → Prop) → Prop)  (Q : St → Prop) : Nat → Int32 → Int32 → Int32 → Int32 → St → Prop
  | 0 => fun _ _ _ _ _ => False
  | n + 1 => fun x1 x2 x3 x4 S => if x3 ≤ x4 then (Q S) else (if (S.1 11 5) = 0 then (E_X2_next S (fun v3 S2 => E_X2_levelOf v3 S2 (fun v5 S4 => if v5 = x1 then (E_X2_next S4 (fun v7 S6 => nmS (stI S6 11 3 ((S6.1 11 3) + 1)) (fun S8 => r_X2_readLevel (x1 + 1) x2 S8 (fun S9 => E_X1_add 10 (20000 + v7) S9 (fun S10 => nmI (x4 + 1) (fun v11 => L_X2_readLevel_34 r_X2_readLevel r_X2_readQ Q n x1 x2 x3 v11 S10)))))) else (Q S4)))) else (Q S))
set_option maxRecDepth 20000 in
theorem w_L_X2_readLevel_34 {E : EV} {Q : St → Prop}  {r_X2_readLevel : Int32 → Int32 → St → (St → Prop) → Prop} {r_X2_readQ : Int32 → St → (St → Prop) → Prop} {D : Nat} (C : CX E cX2_readLevel RX2 6 enC (D + 1 + 2) (30 * (D + 1) + 43))  (hr_X2_readLevel : ∀ (x1 : Int32) (x2 : Int32) (S : St) (Q : St → Prop), r_X2_readLevel x1 x2 S Q → CTv (vL E) yX2_readLevel (Cond.code yX2_readLevel cX2_readLevel 6 none :: AW) { frames := D + 2, cells := 0, slots := 0, locals := 30 * D + 43 } (vG E) enC [.ref (adr (vG E) 11 0), .int x1, .int x2] S Q) (hr_X2_readQ : ∀ (x1 : Int32) (S : St) (Q : St → Prop), r_X2_readQ x1 S Q → CTv (vL E) yX2_readQ (Cond.code yX2_readQ cX2_readQ 4 none :: AW) { frames := D + 2, cells := 0, slots := 0, locals := 30 * D + 43 } (vG E) enC [.ref (adr (vG E) 11 0), .int x1] S Q) (hR : RTv E cX2_readLevel Q) : ∀ (n : Nat) (x1 : Int32) (x2 : Int32) (x3 : Int32) (x4 : Int32) (S : St), L_X2_readLevel_34 r_X2_readLevel r_X2_readQ Q n x1 x2 x3 x4 S → CF E S 34 [(0, .ref (adr (vG E) 11 0)), (1, .int x1), (2, .int x2), (3, .int x3), (4, .int x4)] [] := by
  intro n
  induction n with
  | zero =>
    intro x1 x2 x3 x4 S hm
    exact hm.elim
  | succ n ih =>
    intro x1 x2 x3 x4 S hm
    unfold L_X2_readLevel_34 at hm
    refine cf_iload C dX2_readLevel_34 4 rfl ?_
    refine cf_iload_n C dX2_readLevel_36 rfl 3 rfl ?_
    refine cf_icmp_ge C (tgt := 101) dX2_readLevel_37 (by decide) hm (fun hm => ?_) (fun hm => ?_)
    · exact hR _ _ _ dX2_readLevel_101 hm
    · refine cf_aload_n C dX2_readLevel_40 rfl 0 rfl ?_
      refine gf_2_5 C inX2 okC_11 q214 dX2_readLevel_41 ?_
      refine cf_if_ne C (tgt := 101) dX2_readLevel_44 (by decide) hm (fun hm => ?_) (fun hm => ?_)
      · exact hR _ _ _ dX2_readLevel_101 hm
      · refine cf_aload_n C dX2_readLevel_47 rfl 0 rfl ?_
        refine cf_callVi C [] [] okC_11.1 (ocell_2 okC_11.2.1) rfl q429 q5 (c_X2_next (vL E) (vG E)  _ _  hm) q427 q430 q69 md_X2_next (by omega) (by omega) rfl rfl (Nat.le_of_ble_eq_true rfl) dX2_readLevel_48 (fun v3 S2 hm => ?_)
        refine cf_callSi C [.int v3] [] q453 (c_X2_levelOf (vL E) (vG E) v3 _ _  hm) q452 q454 q69 md_X2_levelOf (by omega) (by omega) rfl rfl (Nat.le_of_ble_eq_true rfl) dX2_readLevel_51 (fun v5 S4 hm => ?_)
        refine cf_iload_n C dX2_readLevel_54 rfl 1 rfl ?_
        refine cf_icmp_ne C (tgt := 101) dX2_readLevel_55 (by decide) hm (fun hm => ?_) (fun hm => ?_)
        · exact hR _ _ _ dX2_readLevel_101 hm
        · refine cf_aload_n C dX2_readLevel_58 rfl 0 rfl ?_
          refine cf_callVi C [] [] okC_11.1 (ocell_2 okC_11.2.1) rfl q429 q5 (c_X2_next (vL E) (vG E)  _ _  hm) q427 q430 q69 md_X2_next (by omega) (by omega) rfl rfl (Nat.le_of_ble_eq_true rfl) dX2_readLevel_59 (fun v7 S6 hm => ?_)
          refine cf_istore C (L1 := [(5, .int v7), (0, .ref (adr (vG E) 11 0)), (1, .int x1), (2, .int x2), (3, .int x3), (4, .int x4)]) dX2_readLevel_62 (by decide) rfl ?_
          refine cf_aload_n C dX2_readLevel_64 rfl 1 rfl ?_
          refine cf_dup C dX2_readLevel_65 rfl ?_
          refine gf_2_3 C inX2 okC_11 q212 dX2_readLevel_66 ?_
          refine cf_iconst C dX2_readLevel_69 (v := 1) rfl ?_
          refine cf_iadd C dX2_readLevel_70 ?_
          refine pf_2_3 C inX2 okC_11 q212 dX2_readLevel_71 ?_
          refine cf_nmS hm (fun S8 hm => ?_)
          refine cf_aload_n C dX2_readLevel_74 rfl 1 rfl ?_
          refine cf_iload_n C dX2_readLevel_75 rfl 2 rfl ?_
          refine cf_iconst C dX2_readLevel_76 (v := 1) rfl ?_
          refine cf_iadd C dX2_readLevel_77 ?_
          refine cf_iload_n C dX2_readLevel_78 rfl 3 rfl ?_
          refine cf_callVv C [.int (x1 + 1), .int x2] [] okC_11.1 (ocell_2 okC_11.2.1) rfl q421 q3 (hr_X2_readLevel (x1 + 1) x2 _ _  hm) q419 q422 q69 md_X2_readLevel (by omega) (by omega) rfl rfl (Nat.le_of_ble_eq_true rfl) dX2_readLevel_79 (fun S9 hm => ?_)
          refine cf_aload_n C dX2_readLevel_82 rfl 1 rfl ?_
          refine gf_2_0 C inX2 okC_11 q208 dX2_readLevel_83 ?_
          refine cf_sipush C dX2_readLevel_86 (v := 20000) rfl ?_
          refine cf_iload C dX2_readLevel_89 0 rfl ?_
          refine cf_iadd C dX2_readLevel_91 ?_
          refine cf_callVv C [.int (20000 + v7)] [] okC_10.1 (ocell_1 okC_10.2.1) rfl q445 q446 (c_X1_add (vL E) (vG E) 10 (20000 + v7) _ _ okC_10 hm) q444 q447 q67 md_X1_add (by omega) (by omega) rfl rfl (Nat.le_of_ble_eq_true rfl) dX2_readLevel_92 (fun S10 hm => ?_)
          refine cf_iincN C (L1 := fun v11 => [(4, .int v11), (5, .int v7), (0, .ref (adr (vG E) 11 0)), (1, .int x1), (2, .int x2), (3, .int x3)]) dX2_readLevel_95 5 rfl rfl (by decide) (fun _ => rfl) hm (fun v11 hm => ?_)
          refine cf_goto C (tgt := 34) dX2_readLevel_98 (by decide) ?_
          refine cf_sub C [2, 3, 4, 5, 0] rfl ?_
          exact ih x1 x2 x3 v11 _ hm
def B_X2_readLevel (r_X2_readLevel : Int32 → Int32 → St → (St → Prop) → Prop) (r_X2_readQ : Int32 → St → (St → Prop) → Prop) (x1 : Int32) (x2 : Int32) (S : St) (Q : St → Prop) : Prop := if x1 < 5 then (r_X2_readLevel (x1 + 1) x2 S (fun S1 => if x1 = 2 then (∃ k, L_X2_readLevel_34 r_X2_readLevel r_X2_readQ Q k x1 x2 1 0 S1) else (∃ k, L_X2_readLevel_34 r_X2_readLevel r_X2_readQ Q k x1 x2 60 0 S1))) else (r_X2_readQ x2 S (fun S12 => Q S12))
set_option maxRecDepth 20000 in
theorem cb_X2_readLevel (l : Launch) (G : GX) (D : Nat) {r_X2_readLevel : Int32 → Int32 → St → (St → Prop) → Prop} {r_X2_readQ : Int32 → St → (St → Prop) → Prop} (hr_X2_readLevel : ∀ (x1 : Int32) (x2 : Int32) (S : St) (Q : St → Prop), r_X2_readLevel x1 x2 S Q → CTv l yX2_readLevel (Cond.code yX2_readLevel cX2_readLevel 6 none :: AW) { frames := D + 2, cells := 0, slots := 0, locals := 30 * D + 43 } G enC [.ref (adr G 11 0), .int x1, .int x2] S Q) (hr_X2_readQ : ∀ (x1 : Int32) (S : St) (Q : St → Prop), r_X2_readQ x1 S Q → CTv l yX2_readQ (Cond.code yX2_readQ cX2_readQ 4 none :: AW) { frames := D + 2, cells := 0, slots := 0, locals := 30 * D + 43 } G enC [.ref (adr G 11 0), .int x1] S Q) (x1 : Int32) (x2 : Int32) (S : St) (Q : St → Prop)  (hm : B_X2_readLevel r_X2_readLevel r_X2_readQ x1 x2 S Q) : CTv l yX2_readLevel (Cond.code yX2_readLevel cX2_readLevel 6 none :: AW) { frames := (D + 1 + 2), cells := 0, slots := 0, locals := (30 * (D + 1) + 43) } G enC [.ref (adr G 11 0), .int x1, .int x2] S Q := by
  refine ct_start_v (by decide) enC_nd (Nat.le_of_ble_eq_true rfl) (fun E hG hl C hR => ?_)
  subst hG
  subst hl
  show CF E S 0 [(0, .ref (adr (vG E) 11 0)), (1, .int x1), (2, .int x2)] []
  unfold B_X2_readLevel at hm
  refine cf_iload_n C dX2_readLevel_0 rfl 1 rfl ?_
  refine cf_iconst C dX2_readLevel_1 (v := 5) rfl ?_
  refine cf_icmp_lt C (tgt := 11) dX2_readLevel_2 (by decide) hm (fun hm => ?_) (fun hm => ?_)
  · refine cf_aload_n C dX2_readLevel_11 rfl 0 rfl ?_
    refine cf_iload_n C dX2_readLevel_12 rfl 1 rfl ?_
    refine cf_iconst C dX2_readLevel_13 (v := 1) rfl ?_
    refine cf_iadd C dX2_readLevel_14 ?_
    refine cf_iload_n C dX2_readLevel_15 rfl 2 rfl ?_
    refine cf_callVv C [.int (x1 + 1), .int x2] [] okC_11.1 (ocell_2 okC_11.2.1) rfl q421 q3 (hr_X2_readLevel (x1 + 1) x2 _ _  hm) q419 q422 q69 md_X2_readLevel (by omega) (by omega) rfl rfl (Nat.le_of_ble_eq_true rfl) dX2_readLevel_16 (fun S1 hm => ?_)
    refine cf_iload_n C dX2_readLevel_19 rfl 1 rfl ?_
    refine cf_iconst C dX2_readLevel_20 (v := 2) rfl ?_
    refine cf_icmp_ne C (tgt := 28) dX2_readLevel_21 (by decide) hm (fun hm => ?_) (fun hm => ?_)
    · refine cf_bipush C dX2_readLevel_28 (v := 60) rfl ?_
      refine cf_istore_n C (L1 := [(3, .int 60), (0, .ref (adr (vG E) 11 0)), (1, .int x1), (2, .int x2)]) dX2_readLevel_30 rfl (by decide) rfl ?_
      refine cf_iconst C dX2_readLevel_31 (v := 0) rfl ?_
      refine cf_istore C (L1 := [(4, .int 0), (3, .int 60), (0, .ref (adr (vG E) 11 0)), (1, .int x1), (2, .int x2)]) dX2_readLevel_32 (by decide) rfl ?_
      refine cf_sub C [2, 3, 4, 1, 0] rfl ?_
      obtain ⟨k, hm⟩ := hm
      exact w_L_X2_readLevel_34 C hr_X2_readLevel hr_X2_readQ hR k x1 x2 60 0 _ hm
    · refine cf_iconst C dX2_readLevel_24 (v := 1) rfl ?_
      refine cf_goto C (tgt := 30) dX2_readLevel_25 (by decide) ?_
      refine cf_istore_n C (L1 := [(3, .int 1), (0, .ref (adr (vG E) 11 0)), (1, .int x1), (2, .int x2)]) dX2_readLevel_30 rfl (by decide) rfl ?_
      refine cf_iconst C dX2_readLevel_31 (v := 0) rfl ?_
      refine cf_istore C (L1 := [(4, .int 0), (3, .int 1), (0, .ref (adr (vG E) 11 0)), (1, .int x1), (2, .int x2)]) dX2_readLevel_32 (by decide) rfl ?_
      refine cf_sub C [2, 3, 4, 1, 0] rfl ?_
      obtain ⟨k, hm⟩ := hm
      exact w_L_X2_readLevel_34 C hr_X2_readLevel hr_X2_readQ hR k x1 x2 1 0 _ hm
  · refine cf_aload_n C dX2_readLevel_5 rfl 0 rfl ?_
    refine cf_iload_n C dX2_readLevel_6 rfl 2 rfl ?_
    refine cf_callVv C [.int x2] [] okC_11.1 (ocell_2 okC_11.2.1) rfl q425 q4 (hr_X2_readQ x2 _ _  hm) q423 q426 q69 md_X2_readQ (by omega) (by omega) rfl rfl (Nat.le_of_ble_eq_true rfl) dX2_readLevel_7 (fun S12 hm => ?_)
    exact hR _ _ _ dX2_readLevel_10 hm
def J_X2_readQ_95  (r_X2_readLevel : Int32 → Int32 → St → (St → Prop) → Prop) (r_X2_readQ : Int32 → St → (St → Prop) → Prop)  (Q : St → Prop) (x1 : Int32) (x2 : Int32) (S : St) : Prop := if x2 = 40 then (if 5 ≤ x1 then (nmS (stI S 11 5 1) (fun S8 => Q S8)) else (nmS (stI S 11 3 ((S.1 11 3) + 1)) (fun S9 => r_X2_readLevel 0 (x1 + 1) S9 (fun S10 => E_X2_readClosing S10 (fun S11 => Q S11))))) else (nmS (stI S 11 5 1) (fun S7 => Q S7))
set_option maxRecDepth 20000 in
theorem w_J_X2_readQ_95 {E : EV} {Q : St → Prop}  {r_X2_readLevel : Int32 → Int32 → St → (St → Prop) → Prop} {r_X2_readQ : Int32 → St → (St → Prop) → Prop} {D : Nat} (C : CX E cX2_readQ RX2 4 enC (D + 1 + 2) (30 * (D + 1) + 43))  (hr_X2_readLevel : ∀ (x1 : Int32) (x2 : Int32) (S : St) (Q : St → Prop), r_X2_readLevel x1 x2 S Q → CTv (vL E) yX2_readLevel (Cond.code yX2_readLevel cX2_readLevel 6 none :: AW) { frames := D + 2, cells := 0, slots := 0, locals := 30 * D + 43 } (vG E) enC [.ref (adr (vG E) 11 0), .int x1, .int x2] S Q) (hr_X2_readQ : ∀ (x1 : Int32) (S : St) (Q : St → Prop), r_X2_readQ x1 S Q → CTv (vL E) yX2_readQ (Cond.code yX2_readQ cX2_readQ 4 none :: AW) { frames := D + 2, cells := 0, slots := 0, locals := 30 * D + 43 } (vG E) enC [.ref (adr (vG E) 11 0), .int x1] S Q) (hR : RTv E cX2_readQ Q) : ∀ (x1 : Int32) (x2 : Int32) (S : St), J_X2_readQ_95 r_X2_readLevel r_X2_readQ Q x1 x2 S → CF E S 95 [(0, .ref (adr (vG E) 11 0)), (1, .int x1), (2, .int x2)] [] := by
  intro x1 x2 S hm
  unfold J_X2_readQ_95 at hm
  refine cf_iload_n C dX2_readQ_95 rfl 2 rfl ?_
  refine cf_bipush C dX2_readQ_96 (v := 40) rfl ?_
  refine cf_icmp_ne C (tgt := 131) dX2_readQ_98 (by decide) hm (fun hm => ?_) (fun hm => ?_)
  · refine cf_aload_n C dX2_readQ_131 rfl 0 rfl ?_
    refine cf_iconst C dX2_readQ_132 (v := 1) rfl ?_
    refine pf_2_5 C inX2 (Or.inr rfl) okC_11 q214 dX2_readQ_133 ?_
    refine cf_nmS hm (fun S7 hm => ?_)
    exact hR _ _ _ dX2_readQ_136 hm
  · refine cf_iload_n C dX2_readQ_101 rfl 1 rfl ?_
    refine cf_iconst C dX2_readQ_102 (v := 5) rfl ?_
    refine cf_icmp_ge C (tgt := 131) dX2_readQ_103 (by decide) hm (fun hm => ?_) (fun hm => ?_)
    · refine cf_aload_n C dX2_readQ_131 rfl 0 rfl ?_
      refine cf_iconst C dX2_readQ_132 (v := 1) rfl ?_
      refine pf_2_5 C inX2 (Or.inr rfl) okC_11 q214 dX2_readQ_133 ?_
      refine cf_nmS hm (fun S8 hm => ?_)
      exact hR _ _ _ dX2_readQ_136 hm
    · refine cf_aload_n C dX2_readQ_106 rfl 0 rfl ?_
      refine cf_dup C dX2_readQ_107 rfl ?_
      refine gf_2_3 C inX2 okC_11 q212 dX2_readQ_108 ?_
      refine cf_iconst C dX2_readQ_111 (v := 1) rfl ?_
      refine cf_iadd C dX2_readQ_112 ?_
      refine pf_2_3 C inX2 okC_11 q212 dX2_readQ_113 ?_
      refine cf_nmS hm (fun S9 hm => ?_)
      refine cf_aload_n C dX2_readQ_116 rfl 0 rfl ?_
      refine cf_iconst C dX2_readQ_117 (v := 0) rfl ?_
      refine cf_iload_n C dX2_readQ_118 rfl 1 rfl ?_
      refine cf_iconst C dX2_readQ_119 (v := 1) rfl ?_
      refine cf_iadd C dX2_readQ_120 ?_
      refine cf_callVv C [.int 0, .int (x1 + 1)] [] okC_11.1 (ocell_2 okC_11.2.1) rfl q421 q3 (hr_X2_readLevel 0 (x1 + 1) _ _  hm) q419 q422 q69 md_X2_readLevel (by omega) (by omega) rfl rfl (Nat.le_of_ble_eq_true rfl) dX2_readQ_121 (fun S10 hm => ?_)
      refine cf_aload_n C dX2_readQ_124 rfl 0 rfl ?_
      refine cf_callVv C [] [] okC_11.1 (ocell_2 okC_11.2.1) rfl q450 q8 (c_X2_readClosing (vL E) (vG E)  _ _  hm) q448 q451 q69 md_X2_readClosing (by omega) (by omega) rfl rfl (Nat.le_of_ble_eq_true rfl) dX2_readQ_125 (fun S11 hm => ?_)
      refine cf_goto C (tgt := 136) dX2_readQ_128 (by decide) ?_
      exact hR _ _ _ dX2_readQ_136 hm
def B_X2_readQ (r_X2_readLevel : Int32 → Int32 → St → (St → Prop) → Prop) (r_X2_readQ : Int32 → St → (St → Prop) → Prop) (x1 : Int32) (S : St) (Q : St → Prop) : Prop := E_X2_next S (fun v2 S1 => E_X2_nameOf v2 S1 (fun v4 S3 => E_X2_isDigit v2 S3 (fun v6 S5 => if v6 = 0 then (if v4 < 0 then (if v2 = 33 then (if 5 ≤ x1 then (J_X2_readQ_95 r_X2_readLevel r_X2_readQ Q x1 v2 S5) else (nmS (stI S5 11 3 ((S5.1 11 3) + 1)) (fun S12 => r_X2_readQ (x1 + 1) S12 (fun S13 => E_X1_add 10 20033 S13 (fun S14 => Q S14))))) else (J_X2_readQ_95 r_X2_readLevel r_X2_readQ Q x1 v2 S5)) else (nmS (stI S5 11 3 ((S5.1 11 3) + 1)) (fun S15 => E_X1_add 10 (10000 + v4) S15 (fun S16 => Q S16)))) else (E_X2_readNumber S5 (fun S17 => Q S17)))))
set_option maxRecDepth 20000 in
theorem cb_X2_readQ (l : Launch) (G : GX) (D : Nat) {r_X2_readLevel : Int32 → Int32 → St → (St → Prop) → Prop} {r_X2_readQ : Int32 → St → (St → Prop) → Prop} (hr_X2_readLevel : ∀ (x1 : Int32) (x2 : Int32) (S : St) (Q : St → Prop), r_X2_readLevel x1 x2 S Q → CTv l yX2_readLevel (Cond.code yX2_readLevel cX2_readLevel 6 none :: AW) { frames := D + 2, cells := 0, slots := 0, locals := 30 * D + 43 } G enC [.ref (adr G 11 0), .int x1, .int x2] S Q) (hr_X2_readQ : ∀ (x1 : Int32) (S : St) (Q : St → Prop), r_X2_readQ x1 S Q → CTv l yX2_readQ (Cond.code yX2_readQ cX2_readQ 4 none :: AW) { frames := D + 2, cells := 0, slots := 0, locals := 30 * D + 43 } G enC [.ref (adr G 11 0), .int x1] S Q) (x1 : Int32) (S : St) (Q : St → Prop)  (hm : B_X2_readQ r_X2_readLevel r_X2_readQ x1 S Q) : CTv l yX2_readQ (Cond.code yX2_readQ cX2_readQ 4 none :: AW) { frames := (D + 1 + 2), cells := 0, slots := 0, locals := (30 * (D + 1) + 43) } G enC [.ref (adr G 11 0), .int x1] S Q := by
  refine ct_start_v (by decide) enC_nd (Nat.le_of_ble_eq_true rfl) (fun E hG hl C hR => ?_)
  subst hG
  subst hl
  show CF E S 0 [(0, .ref (adr (vG E) 11 0)), (1, .int x1)] []
  unfold B_X2_readQ at hm
  refine cf_aload_n C dX2_readQ_0 rfl 0 rfl ?_
  refine cf_callVi C [] [] okC_11.1 (ocell_2 okC_11.2.1) rfl q429 q5 (c_X2_next (vL E) (vG E)  _ _  hm) q427 q430 q69 md_X2_next (by omega) (by omega) rfl rfl (Nat.le_of_ble_eq_true rfl) dX2_readQ_1 (fun v2 S1 hm => ?_)
  refine cf_istore_n C (L1 := [(2, .int v2), (0, .ref (adr (vG E) 11 0)), (1, .int x1)]) dX2_readQ_4 rfl (by decide) rfl ?_
  refine cf_aload_n C dX2_readQ_5 rfl 1 rfl ?_
  refine cf_iload_n C dX2_readQ_6 rfl 0 rfl ?_
  refine cf_callVi C [.int v2] [] okC_11.1 (ocell_2 okC_11.2.1) rfl q433 q6 (c_X2_nameOf (vL E) (vG E) v2 _ _  hm) q431 q434 q69 md_X2_nameOf (by omega) (by omega) rfl rfl (Nat.le_of_ble_eq_true rfl) dX2_readQ_7 (fun v4 S3 hm => ?_)
  refine cf_istore_n C (L1 := [(3, .int v4), (2, .int v2), (0, .ref (adr (vG E) 11 0)), (1, .int x1)]) dX2_readQ_10 rfl (by decide) rfl ?_
  refine cf_iload_n C dX2_readQ_11 rfl 1 rfl ?_
  refine cf_callSi C [.int v2] [] q438 (c_X2_isDigit (vL E) (vG E) v2 _ _  hm) q437 q439 q69 md_X2_isDigit (by omega) (by omega) rfl rfl (Nat.le_of_ble_eq_true rfl) dX2_readQ_12 (fun v6 S5 hm => ?_)
  refine cf_if_eq C (tgt := 25) dX2_readQ_15 (by decide) hm (fun hm => ?_) (fun hm => ?_)
  · refine cf_iload_n C dX2_readQ_25 rfl 0 rfl ?_
    refine cf_if_lt C (tgt := 54) dX2_readQ_26 (by decide) hm (fun hm => ?_) (fun hm => ?_)
    · refine cf_iload_n C dX2_readQ_54 rfl 1 rfl ?_
      refine cf_bipush C dX2_readQ_55 (v := 33) rfl ?_
      refine cf_icmp_ne C (tgt := 95) dX2_readQ_57 (by decide) hm (fun hm => ?_) (fun hm => ?_)
      · refine cf_sub C [2, 3, 1] rfl ?_
        exact w_J_X2_readQ_95 C hr_X2_readLevel hr_X2_readQ hR x1 v2 _ hm
      · refine cf_iload_n C dX2_readQ_60 rfl 3 rfl ?_
        refine cf_iconst C dX2_readQ_61 (v := 5) rfl ?_
        refine cf_icmp_ge C (tgt := 95) dX2_readQ_62 (by decide) hm (fun hm => ?_) (fun hm => ?_)
        · refine cf_sub C [2, 3, 1] rfl ?_
          exact w_J_X2_readQ_95 C hr_X2_readLevel hr_X2_readQ hR x1 v2 _ hm
        · refine cf_aload_n C dX2_readQ_65 rfl 2 rfl ?_
          refine cf_dup C dX2_readQ_66 rfl ?_
          refine gf_2_3 C inX2 okC_11 q212 dX2_readQ_67 ?_
          refine cf_iconst C dX2_readQ_70 (v := 1) rfl ?_
          refine cf_iadd C dX2_readQ_71 ?_
          refine pf_2_3 C inX2 okC_11 q212 dX2_readQ_72 ?_
          refine cf_nmS hm (fun S12 hm => ?_)
          refine cf_aload_n C dX2_readQ_75 rfl 2 rfl ?_
          refine cf_iload_n C dX2_readQ_76 rfl 3 rfl ?_
          refine cf_iconst C dX2_readQ_77 (v := 1) rfl ?_
          refine cf_iadd C dX2_readQ_78 ?_
          refine cf_callVv C [.int (x1 + 1)] [] okC_11.1 (ocell_2 okC_11.2.1) rfl q425 q4 (hr_X2_readQ (x1 + 1) _ _  hm) q423 q426 q69 md_X2_readQ (by omega) (by omega) rfl rfl (Nat.le_of_ble_eq_true rfl) dX2_readQ_79 (fun S13 hm => ?_)
          refine cf_aload_n C dX2_readQ_82 rfl 2 rfl ?_
          refine gf_2_0 C inX2 okC_11 q208 dX2_readQ_83 ?_
          refine cf_sipush C dX2_readQ_86 (v := 20033) rfl ?_
          refine cf_callVv C [.int 20033] [] okC_10.1 (ocell_1 okC_10.2.1) rfl q445 q446 (c_X1_add (vL E) (vG E) 10 20033 _ _ okC_10 hm) q444 q447 q67 md_X1_add (by omega) (by omega) rfl rfl (Nat.le_of_ble_eq_true rfl) dX2_readQ_89 (fun S14 hm => ?_)
          refine cf_goto C (tgt := 136) dX2_readQ_92 (by decide) ?_
          exact hR _ _ _ dX2_readQ_136 hm
    · refine cf_aload_n C dX2_readQ_29 rfl 2 rfl ?_
      refine cf_dup C dX2_readQ_30 rfl ?_
      refine gf_2_3 C inX2 okC_11 q212 dX2_readQ_31 ?_
      refine cf_iconst C dX2_readQ_34 (v := 1) rfl ?_
      refine cf_iadd C dX2_readQ_35 ?_
      refine pf_2_3 C inX2 okC_11 q212 dX2_readQ_36 ?_
      refine cf_nmS hm (fun S15 hm => ?_)
      refine cf_aload_n C dX2_readQ_39 rfl 2 rfl ?_
      refine gf_2_0 C inX2 okC_11 q208 dX2_readQ_40 ?_
      refine cf_sipush C dX2_readQ_43 (v := 10000) rfl ?_
      refine cf_iload_n C dX2_readQ_46 rfl 0 rfl ?_
      refine cf_iadd C dX2_readQ_47 ?_
      refine cf_callVv C [.int (10000 + v4)] [] okC_10.1 (ocell_1 okC_10.2.1) rfl q445 q446 (c_X1_add (vL E) (vG E) 10 (10000 + v4) _ _ okC_10 hm) q444 q447 q67 md_X1_add (by omega) (by omega) rfl rfl (Nat.le_of_ble_eq_true rfl) dX2_readQ_48 (fun S16 hm => ?_)
      refine cf_goto C (tgt := 136) dX2_readQ_51 (by decide) ?_
      exact hR _ _ _ dX2_readQ_136 hm
  · refine cf_aload_n C dX2_readQ_18 rfl 2 rfl ?_
    refine cf_callVv C [] [] okC_11.1 (ocell_2 okC_11.2.1) rfl q442 q7 (c_X2_readNumber (vL E) (vG E)  _ _  hm) q440 q443 q69 md_X2_readNumber (by omega) (by omega) rfl rfl (Nat.le_of_ble_eq_true rfl) dX2_readQ_19 (fun S17 hm => ?_)
    refine cf_goto C (tgt := 136) dX2_readQ_22 (by decide) ?_
    exact hR _ _ _ dX2_readQ_136 hm
def G_X2_readLevel : Nat → (Int32 → Int32 → St → (St → Prop) → Prop) × (Int32 → St → (St → Prop) → Prop)
  | 0 => ((fun _ _ _ _ => False), (fun _ _ _ => False))
  | D + 1 => (B_X2_readLevel (G_X2_readLevel D).1 (G_X2_readLevel D).2, B_X2_readQ (G_X2_readLevel D).1 (G_X2_readLevel D).2)
theorem cg_X2_readLevel (l : Launch) (G : GX) : ∀ D : Nat, (∀ (x1 : Int32) (x2 : Int32) (S : St) (Q : St → Prop), (G_X2_readLevel D).1 x1 x2 S Q → CTv l yX2_readLevel (Cond.code yX2_readLevel cX2_readLevel 6 none :: AW) { frames := D + 2, cells := 0, slots := 0, locals := 30 * D + 43 } G enC [.ref (adr G 11 0), .int x1, .int x2] S Q) ∧ (∀ (x1 : Int32) (S : St) (Q : St → Prop), (G_X2_readLevel D).2 x1 S Q → CTv l yX2_readQ (Cond.code yX2_readQ cX2_readQ 4 none :: AW) { frames := D + 2, cells := 0, slots := 0, locals := 30 * D + 43 } G enC [.ref (adr G 11 0), .int x1] S Q) := by
  intro D
  induction D with
  | zero => exact ⟨fun _ _ _ _ hm => hm.elim, fun _ _ _ hm => hm.elim⟩
  | succ D ih => exact ⟨fun x1 x2 S Q  hm => cb_X2_readLevel l G D ih.1 ih.2 x1 x2 S Q  hm, fun x1 S Q  hm => cb_X2_readQ l G D ih.1 ih.2 x1 S Q  hm⟩
def E_X2_readLevel (x1 : Int32) (x2 : Int32) (S : St) (Q : St → Prop) : Prop := (G_X2_readLevel 64).1 x1 x2 S Q
theorem c_X2_readLevel (l : Launch) (G : GX) (x1 : Int32) (x2 : Int32) (S : St) (Q : St → Prop)  (hm : E_X2_readLevel x1 x2 S Q) : CTv l yX2_readLevel (Cond.code yX2_readLevel cX2_readLevel 6 none :: AW) { frames := 66, cells := 0, slots := 0, locals := 1963 } G enC [.ref (adr G 11 0), .int x1, .int x2] S Q := (cg_X2_readLevel l G 64).1 x1 x2 S Q  hm
def E_X2_readQ (x1 : Int32) (S : St) (Q : St → Prop) : Prop := (G_X2_readLevel 64).2 x1 S Q
theorem c_X2_readQ (l : Launch) (G : GX) (x1 : Int32) (S : St) (Q : St → Prop)  (hm : E_X2_readQ x1 S Q) : CTv l yX2_readQ (Cond.code yX2_readQ cX2_readQ 4 none :: AW) { frames := 66, cells := 0, slots := 0, locals := 1963 } G enC [.ref (adr G 11 0), .int x1] S Q := (cg_X2_readLevel l G 64).2 x1 S Q  hm

def E_X2_read (a1 : Nat) (b1 : Nat) (x2 : Int32) (x3 : Int32) (S : St) (Q : Int32 → St → Prop) : Prop := nmS (stI S 11 2 (if 60 < x2 then 60 else x2)) (fun S1 => (¬ (0 : Int32) < 0 ∧ ¬ (0 : Int32) < 0 ∧ ¬ (S1.1 11 2) < 0 ∧ (0 : Int32).toNatClampNeg + (S1.1 11 2).toNatClampNeg ≤ 60 ∧ (0 : Int32).toNatClampNeg + (S1.1 11 2).toNatClampNeg ≤ 60) ∧ (nmS (stR S1 11 1 (va_cpy (S1.2 a1 b1) (S1.2 11 1) (0 : Int32).toNatClampNeg (0 : Int32).toNatClampNeg (S1.1 11 2).toNatClampNeg)) (fun S2 => nmS (stI S2 11 3 0) (fun S3 => nmS (stI S3 11 4 x3) (fun S4 => nmS (stI S4 11 5 0) (fun S5 => E_X1_forget 10 S5 (fun v7 S6 => E_X2_readLevel 0 0 S6 (fun S8 => if (S8.1 11 5) = 0 then (if (S8.1 11 2) ≤ (S8.1 11 3) then (Q (-1) S8) else (Q (S8.1 11 3) S8)) else (Q (S8.1 11 3) S8)))))))))
set_option maxRecDepth 20000 in
theorem c_X2_read (l : Launch) (G : GX) (a1 : Nat) (b1 : Nat) (x2 : Int32) (x3 : Int32) (S : St) (Q : Int32 → St → Prop) (h1 : okA enC a1 b1 60) (hm : E_X2_read a1 b1 x2 x3 S Q) : CTi l yX2_read (Cond.code yX2_read cX2_read 4 (some .int) :: AW) { frames := 67, cells := 0, slots := 0, locals := 1988 } G enC [.ref (adr G 11 0), .ref (adr G a1 (b1 + 1)), .int x2, .int x3] S Q := by
  refine ct_start_i (by decide) enC_nd (Nat.le_of_ble_eq_true rfl) (fun E hG hl C hR => ?_)
  subst hG
  subst hl
  show CF E S 0 [(0, .ref (adr (vG E) 11 0)), (1, .ref (adr (vG E) a1 (b1 + 1))), (2, .int x2), (3, .int x3)] []
  unfold E_X2_read at hm
  refine cf_aload_n C dX2_read_0 rfl 0 rfl ?_
  refine cf_iload_n C dX2_read_1 rfl 2 rfl ?_
  refine cf_bipush C dX2_read_2 (v := 60) rfl ?_
  refine cf_mmin C q411 q355 q73 q356 (Nat.le_of_ble_eq_true rfl) (Nat.le_of_ble_eq_true rfl) (Nat.le_of_ble_eq_true rfl) dX2_read_4 ?_
  refine pf_2_2 C inX2 okC_11 q211 dX2_read_7 ?_
  refine cf_nmS hm (fun S1 hm => ?_)
  refine cf_aload_n C dX2_read_10 rfl 1 rfl ?_
  refine cf_iconst C dX2_read_11 (v := 0) rfl ?_
  refine cf_aload_n C dX2_read_12 rfl 0 rfl ?_
  refine gf_2_1 C inX2 okC_11 q210 dX2_read_13 ?_
  refine cf_iconst C dX2_read_16 (v := 0) rfl ?_
  refine cf_aload_n C dX2_read_17 rfl 0 rfl ?_
  refine gf_2_2 C inX2 okC_11 q211 dX2_read_18 ?_
  refine cf_copy C h1 (okA_of 1 okC_11 rfl (by decide) (by decide) (by decide)) q412 q414 q413 q74 (Nat.le_of_ble_eq_true rfl) (Nat.le_of_ble_eq_true rfl) (Nat.le_of_ble_eq_true rfl) dX2_read_21 hm (fun hm => ?_)
  refine cf_nmS hm (fun S2 hm => ?_)
  refine cf_aload_n C dX2_read_24 rfl 0 rfl ?_
  refine cf_iconst C dX2_read_25 (v := 0) rfl ?_
  refine pf_2_3 C inX2 okC_11 q212 dX2_read_26 ?_
  refine cf_nmS hm (fun S3 hm => ?_)
  refine cf_aload_n C dX2_read_29 rfl 0 rfl ?_
  refine cf_iload_n C dX2_read_30 rfl 3 rfl ?_
  refine pf_2_4 C inX2 okC_11 q213 dX2_read_31 ?_
  refine cf_nmS hm (fun S4 hm => ?_)
  refine cf_aload_n C dX2_read_34 rfl 0 rfl ?_
  refine cf_iconst C dX2_read_35 (v := 0) rfl ?_
  refine pf_2_5 C inX2 (Or.inl rfl) okC_11 q214 dX2_read_36 ?_
  refine cf_nmS hm (fun S5 hm => ?_)
  refine cf_aload_n C dX2_read_39 rfl 0 rfl ?_
  refine gf_2_0 C inX2 okC_11 q208 dX2_read_40 ?_
  refine cf_callVi C [] [] okC_10.1 (ocell_1 okC_10.2.1) rfl q416 q417 (c_X1_forget (vL E) (vG E) 10 _ _ okC_10 hm) q415 q418 q67 md_X1_forget (Nat.le_of_ble_eq_true rfl) (Nat.le_of_ble_eq_true rfl) rfl rfl (Nat.le_of_ble_eq_true rfl) dX2_read_43 (fun v7 S6 hm => ?_)
  refine cf_pop C dX2_read_46 rfl ?_
  refine cf_aload_n C dX2_read_47 rfl 0 rfl ?_
  refine cf_iconst C dX2_read_48 (v := 0) rfl ?_
  refine cf_iconst C dX2_read_49 (v := 0) rfl ?_
  refine cf_callVv C [.int 0, .int 0] [] okC_11.1 (ocell_2 okC_11.2.1) rfl q421 q3 (c_X2_readLevel (vL E) (vG E) 0 0 _ _  hm) q419 q422 q69 md_X2_readLevel (Nat.le_of_ble_eq_true rfl) (Nat.le_of_ble_eq_true rfl) rfl rfl (Nat.le_of_ble_eq_true rfl) dX2_read_50 (fun S8 hm => ?_)
  refine cf_aload_n C dX2_read_53 rfl 0 rfl ?_
  refine gf_2_5 C inX2 okC_11 q214 dX2_read_54 ?_
  refine cf_if_ne C (tgt := 71) dX2_read_57 (by decide) hm (fun hm => ?_) (fun hm => ?_)
  · refine cf_aload_n C dX2_read_71 rfl 0 rfl ?_
    refine gf_2_3 C inX2 okC_11 q212 dX2_read_72 ?_
    refine cf_goto C (tgt := 79) dX2_read_75 (by decide) ?_
    exact hR _ _ _ _ dX2_read_79 hm
  · refine cf_aload_n C dX2_read_60 rfl 0 rfl ?_
    refine gf_2_3 C inX2 okC_11 q212 dX2_read_61 ?_
    refine cf_aload_n C dX2_read_64 rfl 0 rfl ?_
    refine gf_2_2 C inX2 okC_11 q211 dX2_read_65 ?_
    refine cf_icmp_ge C (tgt := 78) dX2_read_68 (by decide) hm (fun hm => ?_) (fun hm => ?_)
    · refine cf_iconst C dX2_read_78 (v := (-1)) rfl ?_
      exact hR _ _ _ _ dX2_read_79 hm
    · refine cf_aload_n C dX2_read_71 rfl 0 rfl ?_
      refine gf_2_3 C inX2 okC_11 q212 dX2_read_72 ?_
      refine cf_goto C (tgt := 79) dX2_read_75 (by decide) ?_
      exact hR _ _ _ _ dX2_read_79 hm

def E_X6_lawOf (x1 : Int32) (S : St) (Q : Nat → St → Prop) : Prop := if x1 = 0 then (Q 6 S) else (Q 7 S)
set_option maxRecDepth 20000 in
theorem c_X6_lawOf (l : Launch) (G : GX) (x1 : Int32) (S : St) (Q : Nat → St → Prop)  (hm : E_X6_lawOf x1 S Q) : CTr l yX6_lawOf (Cond.code yX6_lawOf cX6_lawOf 2 (some (.object "LeftoverRule$Law")) :: AW) { frames := 0, cells := 0, slots := 0, locals := 0 } G enC [.ref (adr G 0 0), .int x1] S Q := by
  refine ct_start_r (by decide) enC_nd (Nat.le_of_ble_eq_true rfl) (fun E hG hl C hR => ?_)
  subst hG
  subst hl
  show CF E S 0 [(0, .ref (adr (vG E) 0 0)), (1, .int x1)] []
  unfold E_X6_lawOf at hm
  refine cf_iload_n C dX6_lawOf_0 rfl 1 rfl ?_
  refine cf_if_ne C (tgt := 14) dX6_lawOf_1 (by decide) hm (fun hm => ?_) (fun hm => ?_)
  · refine cf_aload_n C dX6_lawOf_14 rfl 0 rfl ?_
    refine gf_6_0 C inX6 okC_0 q276 dX6_lawOf_15 ?_
    refine gf_0_1 C inX0 okC_1 q168 dX6_lawOf_18 ?_
    exact hR _ _ _ _ dX6_lawOf_21 hm
  · refine cf_aload_n C dX6_lawOf_4 rfl 0 rfl ?_
    refine gf_6_0 C inX6 okC_0 q276 dX6_lawOf_5 ?_
    refine gf_0_0 C inX0 okC_1 q166 dX6_lawOf_8 ?_
    refine cf_goto C (tgt := 21) dX6_lawOf_11 (by decide) ?_
    exact hR _ _ _ _ dX6_lawOf_21 hm

def E_X1_takeFrom (o : Nat) (p1 : Nat) (S : St) (Q : St → Prop) : Prop := nmS (stI S o 4 (S.1 p1 4)) (fun S1 => (¬ (0 : Int32) < 0 ∧ ¬ (0 : Int32) < 0 ∧ ¬ (S1.1 o 4) < 0 ∧ (0 : Int32).toNatClampNeg + (S1.1 o 4).toNatClampNeg ≤ 60 ∧ (0 : Int32).toNatClampNeg + (S1.1 o 4).toNatClampNeg ≤ 60) ∧ (nmS (stR S1 o 2 (va_cpy (S1.2 p1 2) (S1.2 o 2) (0 : Int32).toNatClampNeg (0 : Int32).toNatClampNeg (S1.1 o 4).toNatClampNeg)) (fun S2 => Q S2)))
set_option maxRecDepth 20000 in
theorem c_X1_takeFrom (l : Launch) (G : GX) (o : Nat) (p1 : Nat) (S : St) (Q : St → Prop) (ho : okO enC o 1) (h1 : okO enC p1 1) (hm : E_X1_takeFrom o p1 S Q) : CTv l yX1_takeFrom (Cond.code yX1_takeFrom cX1_takeFrom 2 none :: AW) { frames := 1, cells := 0, slots := 0, locals := 72 } G enC [.ref (adr G o 0), .ref (adr G p1 0)] S Q := by
  refine ct_start_v (by decide) enC_nd (Nat.le_of_ble_eq_true rfl) (fun E hG hl C hR => ?_)
  subst hG
  subst hl
  show CF E S 0 [(0, .ref (adr (vG E) o 0)), (1, .ref (adr (vG E) p1 0))] []
  unfold E_X1_takeFrom at hm
  refine cf_aload_n C dX1_takeFrom_0 rfl 0 rfl ?_
  refine cf_aload_n C dX1_takeFrom_1 rfl 1 rfl ?_
  refine gf_1_4 C inX1 h1 q100 dX1_takeFrom_2 ?_
  refine pf_1_4 C inX1 ho q100 dX1_takeFrom_5 ?_
  refine cf_nmS hm (fun S1 hm => ?_)
  refine cf_aload_n C dX1_takeFrom_8 rfl 1 rfl ?_
  refine gf_1_2 C inX1 h1 q98 dX1_takeFrom_9 ?_
  refine cf_iconst C dX1_takeFrom_12 (v := 0) rfl ?_
  refine cf_aload_n C dX1_takeFrom_13 rfl 0 rfl ?_
  refine gf_1_2 C inX1 ho q98 dX1_takeFrom_14 ?_
  refine cf_iconst C dX1_takeFrom_17 (v := 0) rfl ?_
  refine cf_aload_n C dX1_takeFrom_18 rfl 0 rfl ?_
  refine gf_1_4 C inX1 ho q100 dX1_takeFrom_19 ?_
  refine cf_copy C (okA_of 2 h1 rfl (by decide) (by decide) (by decide)) (okA_of 2 ho rfl (by decide) (by decide) (by decide)) q463 q414 q413 q74 (Nat.le_of_ble_eq_true rfl) (Nat.le_of_ble_eq_true rfl) (Nat.le_of_ble_eq_true rfl) dX1_takeFrom_22 hm (fun hm => ?_)
  refine cf_nmS hm (fun S2 hm => ?_)
  exact hR _ _ _ dX1_takeFrom_25 hm

def E_X6_text (x1 : Int32) (S : St) (Q : Int32 → St → Prop) : Prop := E_X6_isUse x1 S (fun v2 S1 => if v2 = 0 then (E_X6_wrong 1 S1 (fun v11 S10 => Q v11 S10)) else (E_X2_read 1 3 (S1.1 1 4) x1 S1 (fun v4 S3 => nmS (stI S3 1 4 0) (fun S5 => if v4 < 0 then (E_X6_lawOf x1 S5 (fun r7 S6 => okO enC r7 1 ∧ (E_X1_takeFrom r7 10 S6 (fun S9 => Q 1 S9)))) else (Q ((-10) - v4) S5)))))
set_option maxRecDepth 20000 in
theorem c_X6_text (l : Launch) (G : GX) (x1 : Int32) (S : St) (Q : Int32 → St → Prop)  (hm : E_X6_text x1 S Q) : CTi l yX6_text (Cond.code yX6_text cX6_text 3 (some .int) :: AW) { frames := 68, cells := 0, slots := 0, locals := 2011 } G enC [.ref (adr G 0 0), .int x1] S Q := by
  refine ct_start_i (by decide) enC_nd (Nat.le_of_ble_eq_true rfl) (fun E hG hl C hR => ?_)
  subst hG
  subst hl
  show CF E S 0 [(0, .ref (adr (vG E) 0 0)), (1, .int x1)] []
  unfold E_X6_text at hm
  refine cf_iload_n C dX6_text_0 rfl 1 rfl ?_
  refine cf_callSi C [.int x1] [] q405 (c_X6_isUse (vL E) (vG E) x1 _ _  hm) q404 q406 q65 md_X6_isUse (Nat.le_of_ble_eq_true rfl) (Nat.le_of_ble_eq_true rfl) rfl rfl (Nat.le_of_ble_eq_true rfl) dX6_text_1 (fun v2 S1 hm => ?_)
  refine cf_if_ne C (tgt := 13) dX6_text_4 (by decide) hm (fun hm => ?_) (fun hm => ?_)
  · refine cf_aload_n C dX6_text_13 rfl 0 rfl ?_
    refine gf_6_4 C inX6 okC_0 q280 dX6_text_14 ?_
    refine cf_aload_n C dX6_text_17 rfl 0 rfl ?_
    refine gf_6_0 C inX6 okC_0 q276 dX6_text_18 ?_
    refine gf_0_3 C inX0 okC_1 q172 dX6_text_21 ?_
    refine cf_aload_n C dX6_text_24 rfl 0 rfl ?_
    refine gf_6_0 C inX6 okC_0 q276 dX6_text_25 ?_
    refine gf_0_4 C inX0 okC_1 q174 dX6_text_28 ?_
    refine cf_iload_n C dX6_text_31 rfl 1 rfl ?_
    refine cf_callVi C [.ref (adr (vG E) 1 4), .int (S1.1 1 4), .int x1] [] okC_11.1 (ocell_2 okC_11.2.1) rfl q408 q409 (c_X2_read (vL E) (vG E) 1 3 (S1.1 1 4) x1 _ _ (okA_of 3 okC_1 rfl (by decide) (by decide) (by decide)) hm) q407 q410 q69 md_X2_read (Nat.le_of_ble_eq_true rfl) (Nat.le_of_ble_eq_true rfl) rfl rfl (Nat.le_of_ble_eq_true rfl) dX6_text_32 (fun v4 S3 hm => ?_)
    refine cf_istore_n C (L1 := [(2, .int v4), (0, .ref (adr (vG E) 0 0)), (1, .int x1)]) dX6_text_35 rfl (by decide) rfl ?_
    refine cf_aload_n C dX6_text_36 rfl 1 rfl ?_
    refine gf_6_0 C inX6 okC_0 q276 dX6_text_37 ?_
    refine cf_iconst C dX6_text_40 (v := 0) rfl ?_
    refine pf_0_4 C inX0 okC_1 q174 dX6_text_41 ?_
    refine cf_nmS hm (fun S5 hm => ?_)
    refine cf_iload_n C dX6_text_44 rfl 0 rfl ?_
    refine cf_if_lt C (tgt := 53) dX6_text_45 (by decide) hm (fun hm => ?_) (fun hm => ?_)
    · refine cf_aload_n C dX6_text_53 rfl 1 rfl ?_
      refine cf_iload_n C dX6_text_54 rfl 2 rfl ?_
      refine cf_callVr C [.int x1] [] okC_0.1 (ocell_6 okC_0.2.1) rfl q457 q9 (c_X6_lawOf (vL E) (vG E) x1 _ _  hm) q455 q458 q65 md_X6_lawOf (Nat.le_of_ble_eq_true rfl) (Nat.le_of_ble_eq_true rfl) rfl rfl (Nat.le_of_ble_eq_true rfl) dX6_text_55 (fun r7 S6 hm => ?_)
      obtain ⟨ho8, hm⟩ := hm
      refine cf_aload_n C dX6_text_58 rfl 1 rfl ?_
      refine gf_6_4 C inX6 okC_0 q280 dX6_text_59 ?_
      refine gf_2_0 C inX2 okC_11 q209 dX6_text_62 ?_
      refine cf_callVv C [.ref (adr (vG E) 10 0)] [] ho8.1 (ocell_1 ho8.2.1) rfl q460 q461 (c_X1_takeFrom (vL E) (vG E) r7 10 _ _ ho8 okC_10 hm) q459 q462 q67 md_X1_takeFrom (Nat.le_of_ble_eq_true rfl) (Nat.le_of_ble_eq_true rfl) rfl rfl (Nat.le_of_ble_eq_true rfl) dX6_text_65 (fun S9 hm => ?_)
      refine cf_iconst C dX6_text_68 (v := 1) rfl ?_
      exact hR _ _ _ _ dX6_text_69 hm
    · refine cf_bipush C dX6_text_48 (v := (-10)) rfl ?_
      refine cf_iload_n C dX6_text_50 rfl 0 rfl ?_
      refine cf_isub C dX6_text_51 ?_
      exact hR _ _ _ _ dX6_text_52 hm
  · refine cf_aload_n C dX6_text_7 rfl 0 rfl ?_
    refine cf_iconst C dX6_text_8 (v := 1) rfl ?_
    refine cf_callVi C [.int 1] [] okC_0.1 (ocell_6 okC_0.2.1) rfl q316 q0 (c_X6_wrong (vL E) (vG E) 1 _ _  hm) q314 q317 q65 md_X6_wrong (Nat.le_of_ble_eq_true rfl) (Nat.le_of_ble_eq_true rfl) rfl rfl (Nat.le_of_ble_eq_true rfl) dX6_text_9 (fun v11 S10 hm => ?_)
    exact hR _ _ _ _ dX6_text_12 hm

def E_X6_untell (x1 : Int32) (S : St) (Q : Int32 → St → Prop) : Prop := E_X6_isUse x1 S (fun v2 S1 => if v2 = 0 then (E_X6_wrong 1 S1 (fun v9 S8 => Q v9 S8)) else (E_X6_lawOf x1 S1 (fun r4 S3 => okO enC r4 1 ∧ (E_X1_forget r4 S3 (fun v7 S6 => if v7 = 0 then (Q 0 S6) else (Q 1 S6))))))
set_option maxRecDepth 20000 in
theorem c_X6_untell (l : Launch) (G : GX) (x1 : Int32) (S : St) (Q : Int32 → St → Prop)  (hm : E_X6_untell x1 S Q) : CTi l yX6_untell (Cond.code yX6_untell cX6_untell 2 (some .int) :: AW) { frames := 2, cells := 0, slots := 0, locals := 42 } G enC [.ref (adr G 0 0), .int x1] S Q := by
  refine ct_start_i (by decide) enC_nd (Nat.le_of_ble_eq_true rfl) (fun E hG hl C hR => ?_)
  subst hG
  subst hl
  show CF E S 0 [(0, .ref (adr (vG E) 0 0)), (1, .int x1)] []
  unfold E_X6_untell at hm
  refine cf_iload_n C dX6_untell_0 rfl 1 rfl ?_
  refine cf_callSi C [.int x1] [] q405 (c_X6_isUse (vL E) (vG E) x1 _ _  hm) q404 q406 q65 md_X6_isUse (Nat.le_of_ble_eq_true rfl) (Nat.le_of_ble_eq_true rfl) rfl rfl (Nat.le_of_ble_eq_true rfl) dX6_untell_1 (fun v2 S1 hm => ?_)
  refine cf_if_ne C (tgt := 13) dX6_untell_4 (by decide) hm (fun hm => ?_) (fun hm => ?_)
  · refine cf_aload_n C dX6_untell_13 rfl 0 rfl ?_
    refine cf_iload_n C dX6_untell_14 rfl 1 rfl ?_
    refine cf_callVr C [.int x1] [] okC_0.1 (ocell_6 okC_0.2.1) rfl q457 q9 (c_X6_lawOf (vL E) (vG E) x1 _ _  hm) q455 q458 q65 md_X6_lawOf (Nat.le_of_ble_eq_true rfl) (Nat.le_of_ble_eq_true rfl) rfl rfl (Nat.le_of_ble_eq_true rfl) dX6_untell_15 (fun r4 S3 hm => ?_)
    obtain ⟨ho5, hm⟩ := hm
    refine cf_callVi C [] [] ho5.1 (ocell_1 ho5.2.1) rfl q416 q417 (c_X1_forget (vL E) (vG E) r4 _ _ ho5 hm) q468 q418 q67 md_X1_forget (Nat.le_of_ble_eq_true rfl) (Nat.le_of_ble_eq_true rfl) rfl rfl (Nat.le_of_ble_eq_true rfl) dX6_untell_18 (fun v7 S6 hm => ?_)
    refine cf_if_eq C (tgt := 28) dX6_untell_21 (by decide) hm (fun hm => ?_) (fun hm => ?_)
    · refine cf_iconst C dX6_untell_28 (v := 0) rfl ?_
      exact hR _ _ _ _ dX6_untell_29 hm
    · refine cf_iconst C dX6_untell_24 (v := 1) rfl ?_
      refine cf_goto C (tgt := 29) dX6_untell_25 (by decide) ?_
      exact hR _ _ _ _ dX6_untell_29 hm
  · refine cf_aload_n C dX6_untell_7 rfl 0 rfl ?_
    refine cf_iconst C dX6_untell_8 (v := 1) rfl ?_
    refine cf_callVi C [.int 1] [] okC_0.1 (ocell_6 okC_0.2.1) rfl q316 q0 (c_X6_wrong (vL E) (vG E) 1 _ _  hm) q314 q317 q65 md_X6_wrong (Nat.le_of_ble_eq_true rfl) (Nat.le_of_ble_eq_true rfl) rfl rfl (Nat.le_of_ble_eq_true rfl) dX6_untell_9 (fun v9 S8 hm => ?_)
    exact hR _ _ _ _ dX6_untell_12 hm

def E_X6_law (x1 : Int32) (x2 : Int32) (x3 : Int32) (x4 : Int32) (S : St) (Q : Int32 → St → Prop) : Prop := E_X6_isUse x1 S (fun v2 S1 => if v2 = 0 then (E_X6_wrong 1 S1 (fun v4 S3 => Q v4 S3)) else (E_X6_lawOf x1 S1 (fun r6 S5 => okO enC r6 1 ∧ (E_X1_gives r6 x2 x3 x4 S5 (fun v9 S8 => Q v9 S8)))))
set_option maxRecDepth 20000 in
theorem c_X6_law (l : Launch) (G : GX) (x1 : Int32) (x2 : Int32) (x3 : Int32) (x4 : Int32) (S : St) (Q : Int32 → St → Prop)  (hm : E_X6_law x1 x2 x3 x4 S Q) : CTi l yX6_law (Cond.code yX6_law cX6_law 5 (some .int) :: AW) { frames := 3, cells := 0, slots := 0, locals := 69 } G enC [.ref (adr G 0 0), .int x1, .int x2, .int x3, .int x4] S Q := by
  refine ct_start_i (by decide) enC_nd (Nat.le_of_ble_eq_true rfl) (fun E hG hl C hR => ?_)
  subst hG
  subst hl
  show CF E S 0 [(0, .ref (adr (vG E) 0 0)), (1, .int x1), (2, .int x2), (3, .int x3), (4, .int x4)] []
  unfold E_X6_law at hm
  refine cf_iload_n C dX6_law_0 rfl 1 rfl ?_
  refine cf_callSi C [.int x1] [] q405 (c_X6_isUse (vL E) (vG E) x1 _ _  hm) q404 q406 q65 md_X6_isUse (Nat.le_of_ble_eq_true rfl) (Nat.le_of_ble_eq_true rfl) rfl rfl (Nat.le_of_ble_eq_true rfl) dX6_law_1 (fun v2 S1 hm => ?_)
  refine cf_if_eq C (tgt := 22) dX6_law_4 (by decide) hm (fun hm => ?_) (fun hm => ?_)
  · refine cf_aload_n C dX6_law_22 rfl 0 rfl ?_
    refine cf_iconst C dX6_law_23 (v := 1) rfl ?_
    refine cf_callVi C [.int 1] [] okC_0.1 (ocell_6 okC_0.2.1) rfl q316 q0 (c_X6_wrong (vL E) (vG E) 1 _ _  hm) q314 q317 q65 md_X6_wrong (Nat.le_of_ble_eq_true rfl) (Nat.le_of_ble_eq_true rfl) rfl rfl (Nat.le_of_ble_eq_true rfl) dX6_law_24 (fun v4 S3 hm => ?_)
    exact hR _ _ _ _ dX6_law_27 hm
  · refine cf_aload_n C dX6_law_7 rfl 0 rfl ?_
    refine cf_iload_n C dX6_law_8 rfl 1 rfl ?_
    refine cf_callVr C [.int x1] [] okC_0.1 (ocell_6 okC_0.2.1) rfl q457 q9 (c_X6_lawOf (vL E) (vG E) x1 _ _  hm) q455 q458 q65 md_X6_lawOf (Nat.le_of_ble_eq_true rfl) (Nat.le_of_ble_eq_true rfl) rfl rfl (Nat.le_of_ble_eq_true rfl) dX6_law_9 (fun r6 S5 hm => ?_)
    obtain ⟨ho7, hm⟩ := hm
    refine cf_iload_n C dX6_law_12 rfl 2 rfl ?_
    refine cf_iload_n C dX6_law_13 rfl 3 rfl ?_
    refine cf_iload C dX6_law_14 4 rfl ?_
    refine cf_callVi C [.int x2, .int x3, .int x4] [] ho7.1 (ocell_1 ho7.2.1) rfl q340 q341 (c_X1_gives (vL E) (vG E) r6 x2 x3 x4 _ _ ho7 hm) q473 q342 q67 md_X1_gives (Nat.le_of_ble_eq_true rfl) (Nat.le_of_ble_eq_true rfl) rfl rfl (Nat.le_of_ble_eq_true rfl) dX6_law_16 (fun v9 S8 hm => ?_)
    refine cf_goto C (tgt := 27) dX6_law_19 (by decide) ?_
    exact hR _ _ _ _ dX6_law_27 hm

def E_X6_isHunger (x0 : Int32) (S : St) (Q : Int32 → St → Prop) : Prop := E_X6_within x0 0 99 S (fun v2 S1 => (v2 = 0 ∨ v2 = 1) ∧ (Q v2 S1))
set_option maxRecDepth 20000 in
theorem c_X6_isHunger (l : Launch) (G : GX) (x0 : Int32) (S : St) (Q : Int32 → St → Prop)  (hm : E_X6_isHunger x0 S Q) : CTi l yX6_isHunger (Cond.code yX6_isHunger cX6_isHunger 1 (some .boolean) :: AW) { frames := 1, cells := 0, slots := 0, locals := 22 } G enC [.int x0] S Q := by
  refine ct_start_z (by decide) enC_nd (Nat.le_of_ble_eq_true rfl) (fun E hG hl C hR => ?_)
  subst hG
  subst hl
  show CF E S 0 [(0, .int x0)] []
  unfold E_X6_isHunger at hm
  refine cf_iload_n C dX6_isHunger_0 rfl 0 rfl ?_
  refine cf_iconst C dX6_isHunger_1 (v := 0) rfl ?_
  refine cf_bipush C dX6_isHunger_2 (v := 99) rfl ?_
  refine cf_callSi C [.int x0, .int 0, .int 99] [] q312 (c_X6_within (vL E) (vG E) x0 0 99 _ _  hm) q311 q313 q65 md_X6_within (Nat.le_of_ble_eq_true rfl) (Nat.le_of_ble_eq_true rfl) rfl rfl (Nat.le_of_ble_eq_true rfl) dX6_isHunger_4 (fun v2 S1 hm => ?_)
  exact hR _ _ _ _ dX6_isHunger_7 hm.1 hm.2

def L_X4_leastClaim_4 (o : Nat)   (Q : Int32 → St → Prop) : Nat → Int32 → Int32 → St → Prop
  | 0 => fun _ _ _ => False
  | n + 1 => fun x1 x2 S => if (S.1 o 2) ≤ x2 then (Q x1 S) else (vp_in x2 9 ∧ (if (S.2 o 10 x2.toNatClampNeg) < 0 then (nmI (x2 + 1) (fun v1 => L_X4_leastClaim_4 o Q n x1 v1 S)) else (if x1 < 0 then (nmI (x2 + 1) (fun v2 => L_X4_leastClaim_4 o Q n x2 v2 S)) else (vp_in x2 9 ∧ (vp_in x1 9 ∧ (if (S.2 o 10 x1.toNatClampNeg) ≤ (S.2 o 10 x2.toNatClampNeg) then (nmI (x2 + 1) (fun v3 => L_X4_leastClaim_4 o Q n x1 v3 S)) else (nmI (x2 + 1) (fun v4 => L_X4_leastClaim_4 o Q n x2 v4 S))))))))
set_option maxRecDepth 20000 in
theorem w_L_X4_leastClaim_4 {E : EV} {Q : Int32 → St → Prop} {o : Nat}  (C : CX E cX4_leastClaim RX4 3 enC 0 0) (ho : okO enC o 4)  (hR : RTi E cX4_leastClaim Q) : ∀ (n : Nat) (x1 : Int32) (x2 : Int32) (S : St), L_X4_leastClaim_4 o Q n x1 x2 S → CF E S 4 [(0, .ref (adr (vG E) o 0)), (1, .int x1), (2, .int x2)] [] := by
  intro n
  induction n with
  | zero =>
    intro x1 x2 S hm
    exact hm.elim
  | succ n ih =>
    intro x1 x2 S hm
    unfold L_X4_leastClaim_4 at hm
    refine cf_iload_n C dX4_leastClaim_4 rfl 2 rfl ?_
    refine cf_aload_n C dX4_leastClaim_5 rfl 0 rfl ?_
    refine gf_4_2 C inX4 ho q121 dX4_leastClaim_6 ?_
    refine cf_icmp_ge C (tgt := 48) dX4_leastClaim_9 (by decide) hm (fun hm => ?_) (fun hm => ?_)
    · refine cf_iload_n C dX4_leastClaim_48 rfl 1 rfl ?_
      exact hR _ _ _ _ dX4_leastClaim_49 hm
    · refine cf_aload_n C dX4_leastClaim_12 rfl 0 rfl ?_
      refine gf_4_10 C inX4 ho q141 dX4_leastClaim_13 ?_
      refine cf_iload_n C dX4_leastClaim_16 rfl 2 rfl ?_
      refine cf_iald C (okA_of 10 ho rfl (by decide) (by decide) (by decide)) dX4_leastClaim_17 hm (fun hm => ?_)
      refine cf_if_lt C (tgt := 42) dX4_leastClaim_18 (by decide) hm (fun hm => ?_) (fun hm => ?_)
      · refine cf_iincN C (L1 := fun v1 => [(2, .int v1), (0, .ref (adr (vG E) o 0)), (1, .int x1)]) dX4_leastClaim_42 2 rfl rfl (by decide) (fun _ => rfl) hm (fun v1 hm => ?_)
        refine cf_goto C (tgt := 4) dX4_leastClaim_45 (by decide) ?_
        refine cf_sub C [1, 2, 0] rfl ?_
        exact ih x1 v1 _ hm
      · refine cf_iload_n C dX4_leastClaim_21 rfl 1 rfl ?_
        refine cf_if_lt C (tgt := 40) dX4_leastClaim_22 (by decide) hm (fun hm => ?_) (fun hm => ?_)
        · refine cf_iload_n C dX4_leastClaim_40 rfl 2 rfl ?_
          refine cf_istore_n C (L1 := [(1, .int x2), (0, .ref (adr (vG E) o 0)), (2, .int x2)]) dX4_leastClaim_41 rfl (by decide) rfl ?_
          refine cf_iincN C (L1 := fun v2 => [(2, .int v2), (1, .int x2), (0, .ref (adr (vG E) o 0))]) dX4_leastClaim_42 2 rfl rfl (by decide) (fun _ => rfl) hm (fun v2 hm => ?_)
          refine cf_goto C (tgt := 4) dX4_leastClaim_45 (by decide) ?_
          refine cf_sub C [2, 1, 0] rfl ?_
          exact ih x2 v2 _ hm
        · refine cf_aload_n C dX4_leastClaim_25 rfl 0 rfl ?_
          refine gf_4_10 C inX4 ho q141 dX4_leastClaim_26 ?_
          refine cf_iload_n C dX4_leastClaim_29 rfl 2 rfl ?_
          refine cf_iald C (okA_of 10 ho rfl (by decide) (by decide) (by decide)) dX4_leastClaim_30 hm (fun hm => ?_)
          refine cf_aload_n C dX4_leastClaim_31 rfl 0 rfl ?_
          refine gf_4_10 C inX4 ho q141 dX4_leastClaim_32 ?_
          refine cf_iload_n C dX4_leastClaim_35 rfl 1 rfl ?_
          refine cf_iald C (okA_of 10 ho rfl (by decide) (by decide) (by decide)) dX4_leastClaim_36 hm (fun hm => ?_)
          refine cf_icmp_ge C (tgt := 42) dX4_leastClaim_37 (by decide) hm (fun hm => ?_) (fun hm => ?_)
          · refine cf_iincN C (L1 := fun v3 => [(2, .int v3), (0, .ref (adr (vG E) o 0)), (1, .int x1)]) dX4_leastClaim_42 2 rfl rfl (by decide) (fun _ => rfl) hm (fun v3 hm => ?_)
            refine cf_goto C (tgt := 4) dX4_leastClaim_45 (by decide) ?_
            refine cf_sub C [1, 2, 0] rfl ?_
            exact ih x1 v3 _ hm
          · refine cf_iload_n C dX4_leastClaim_40 rfl 2 rfl ?_
            refine cf_istore_n C (L1 := [(1, .int x2), (0, .ref (adr (vG E) o 0)), (2, .int x2)]) dX4_leastClaim_41 rfl (by decide) rfl ?_
            refine cf_iincN C (L1 := fun v4 => [(2, .int v4), (1, .int x2), (0, .ref (adr (vG E) o 0))]) dX4_leastClaim_42 2 rfl rfl (by decide) (fun _ => rfl) hm (fun v4 hm => ?_)
            refine cf_goto C (tgt := 4) dX4_leastClaim_45 (by decide) ?_
            refine cf_sub C [2, 1, 0] rfl ?_
            exact ih x2 v4 _ hm
def E_X4_leastClaim (o : Nat) (S : St) (Q : Int32 → St → Prop) : Prop := ∃ k, L_X4_leastClaim_4 o Q k (-1) 0 S
set_option maxRecDepth 20000 in
theorem c_X4_leastClaim (l : Launch) (G : GX) (o : Nat) (S : St) (Q : Int32 → St → Prop) (ho : okO enC o 4) (hm : E_X4_leastClaim o S Q) : CTi l yX4_leastClaim (Cond.code yX4_leastClaim cX4_leastClaim 3 (some .int) :: AW) { frames := 0, cells := 0, slots := 0, locals := 0 } G enC [.ref (adr G o 0)] S Q := by
  refine ct_start_i (by decide) enC_nd (Nat.le_of_ble_eq_true rfl) (fun E hG hl C hR => ?_)
  subst hG
  subst hl
  show CF E S 0 [(0, .ref (adr (vG E) o 0))] []
  unfold E_X4_leastClaim at hm
  refine cf_iconst C dX4_leastClaim_0 (v := (-1)) rfl ?_
  refine cf_istore_n C (L1 := [(1, .int ((-1))), (0, .ref (adr (vG E) o 0))]) dX4_leastClaim_1 rfl (by decide) rfl ?_
  refine cf_iconst C dX4_leastClaim_2 (v := 0) rfl ?_
  refine cf_istore_n C (L1 := [(2, .int 0), (1, .int ((-1))), (0, .ref (adr (vG E) o 0))]) dX4_leastClaim_3 rfl (by decide) rfl ?_
  refine cf_sub C [2, 1, 0] rfl ?_
  obtain ⟨k, hm⟩ := hm
  exact w_L_X4_leastClaim_4 C ho hR k (-1) 0 _ hm

def L_X4_eat_46 (o : Nat)   (Q : Int32 → St → Prop) : Nat → Int32 → Int32 → St → Prop
  | 0 => fun _ _ _ => False
  | n + 1 => fun x3 x4 S => if (S.1 o 2) ≤ x4 then (Q x3 S) else (if x3 ≤ 0 then (Q x3 S) else (E_X4_leastClaim o S (fun v2 S1 => if 0 ≤ v2 then (vp_in v2 9 ∧ (nmI (if (S1.2 o 7 v2.toNatClampNeg) < x3 then (S1.2 o 7 v2.toNatClampNeg) else x3) (fun v3 => vp_in v2 9 ∧ (vp_in v2 9 ∧ (nmS (stR S1 o 7 (upd (S1.2 o 7) v2.toNatClampNeg ((S1.2 o 7 v2.toNatClampNeg) - v3))) (fun S4 => nmI (x3 - v3) (fun v5 => vp_in v2 9 ∧ (nmS (stR S4 o 10 (upd (S4.2 o 10) v2.toNatClampNeg (-1))) (fun S6 => nmI (x4 + 1) (fun v7 => L_X4_eat_46 o Q n v5 v7 S6)))))))))) else (Q x3 S1))))
set_option maxRecDepth 20000 in
theorem w_L_X4_eat_46 {E : EV} {Q : Int32 → St → Prop} {o : Nat}  (C : CX E cX4_eat RX4 7 enC 4 91) (ho : okO enC o 4)  (hR : RTi E cX4_eat Q) : ∀ (n : Nat) (x3 : Int32) (x4 : Int32) (S : St), L_X4_eat_46 o Q n x3 x4 S → CF E S 46 [(0, .ref (adr (vG E) o 0)), (3, .int x3), (4, .int x4)] [] := by
  intro n
  induction n with
  | zero =>
    intro x3 x4 S hm
    exact hm.elim
  | succ n ih =>
    intro x3 x4 S hm
    unfold L_X4_eat_46 at hm
    refine cf_iload C dX4_eat_46 2 rfl ?_
    refine cf_aload_n C dX4_eat_48 rfl 0 rfl ?_
    refine gf_4_2 C inX4 ho q121 dX4_eat_49 ?_
    refine cf_icmp_ge C (tgt := 116) dX4_eat_52 (by decide) hm (fun hm => ?_) (fun hm => ?_)
    · refine cf_iload_n C dX4_eat_116 rfl 1 rfl ?_
      exact hR _ _ _ _ dX4_eat_117 hm
    · refine cf_iload_n C dX4_eat_55 rfl 1 rfl ?_
      refine cf_if_le C (tgt := 116) dX4_eat_56 (by decide) hm (fun hm => ?_) (fun hm => ?_)
      · refine cf_iload_n C dX4_eat_116 rfl 1 rfl ?_
        exact hR _ _ _ _ dX4_eat_117 hm
      · refine cf_aload_n C dX4_eat_59 rfl 0 rfl ?_
        refine cf_callVi C [] [] ho.1 (ocell_4 ho.2.1) rfl q493 q11 (c_X4_leastClaim (vL E) (vG E) o _ _ ho hm) q491 q494 q68 md_X4_leastClaim (Nat.le_of_ble_eq_true rfl) (Nat.le_of_ble_eq_true rfl) rfl rfl (Nat.le_of_ble_eq_true rfl) dX4_eat_60 (fun v2 S1 hm => ?_)
        refine cf_istore C (L1 := [(5, .int v2), (0, .ref (adr (vG E) o 0)), (3, .int x3), (4, .int x4)]) dX4_eat_63 (by decide) rfl ?_
        refine cf_iload C dX4_eat_65 0 rfl ?_
        refine cf_if_ge C (tgt := 72) dX4_eat_67 (by decide) hm (fun hm => ?_) (fun hm => ?_)
        · refine cf_iload_n C dX4_eat_72 rfl 2 rfl ?_
          refine cf_aload_n C dX4_eat_73 rfl 1 rfl ?_
          refine gf_4_7 C inX4 ho q134 dX4_eat_74 ?_
          refine cf_iload C dX4_eat_77 0 rfl ?_
          refine cf_iald C (okA_of 7 ho rfl (by decide) (by decide) (by decide)) dX4_eat_79 hm (fun hm => ?_)
          refine cf_mmin C q495 q355 q73 q356 (Nat.le_of_ble_eq_true rfl) (Nat.le_of_ble_eq_true rfl) (Nat.le_of_ble_eq_true rfl) dX4_eat_80 ?_
          refine cf_nmI hm (fun v3 hm => ?_)
          refine cf_istore C (L1 := [(6, .int v3), (5, .int v2), (0, .ref (adr (vG E) o 0)), (3, .int x3), (4, .int x4)]) dX4_eat_83 (by decide) rfl ?_
          refine cf_aload_n C dX4_eat_85 rfl 2 rfl ?_
          refine gf_4_7 C inX4 ho q134 dX4_eat_86 ?_
          refine cf_iload C dX4_eat_89 1 rfl ?_
          refine cf_dup2 C dX4_eat_91 rfl rfl ?_
          refine cf_iald C (okA_of 7 ho rfl (by decide) (by decide) (by decide)) dX4_eat_92 hm (fun hm => ?_)
          refine cf_iload C dX4_eat_93 0 rfl ?_
          refine cf_isub C dX4_eat_95 ?_
          refine cf_iast C (okA_of 7 ho rfl (by decide) (by decide) (by decide)) dX4_eat_96 hm (fun hm => ?_)
          refine cf_nmS hm (fun S4 hm => ?_)
          refine cf_iload_n C dX4_eat_97 rfl 3 rfl ?_
          refine cf_iload C dX4_eat_98 0 rfl ?_
          refine cf_isub C dX4_eat_100 ?_
          refine cf_nmI hm (fun v5 hm => ?_)
          refine cf_istore_n C (L1 := [(3, .int v5), (6, .int v3), (5, .int v2), (0, .ref (adr (vG E) o 0)), (4, .int x4)]) dX4_eat_101 rfl (by decide) rfl ?_
          refine cf_aload_n C dX4_eat_102 rfl 3 rfl ?_
          refine gf_4_10 C inX4 ho q141 dX4_eat_103 ?_
          refine cf_iload C dX4_eat_106 2 rfl ?_
          refine cf_iconst C dX4_eat_108 (v := (-1)) rfl ?_
          refine cf_iast C (okA_of 10 ho rfl (by decide) (by decide) (by decide)) dX4_eat_109 hm (fun hm => ?_)
          refine cf_nmS hm (fun S6 hm => ?_)
          refine cf_iincN C (L1 := fun v7 => [(4, .int v7), (3, .int v5), (6, .int v3), (5, .int v2), (0, .ref (adr (vG E) o 0))]) dX4_eat_110 4 rfl rfl (by decide) (fun _ => rfl) hm (fun v7 hm => ?_)
          refine cf_goto C (tgt := 46) dX4_eat_113 (by decide) ?_
          refine cf_sub C [4, 1, 0] rfl ?_
          exact ih v5 v7 _ hm
        · refine cf_iload_n C dX4_eat_70 rfl 2 rfl ?_
          exact hR _ _ _ _ dX4_eat_71 hm
def L_X4_eat_2 (o : Nat)   (Q : Int32 → St → Prop) : Nat → Int32 → Int32 → Int32 → St → Prop
  | 0 => fun _ _ _ _ => False
  | n + 1 => fun x1 x2 x3 S => if (S.1 o 2) ≤ x3 then (∃ k, L_X4_eat_46 o Q k x2 0 S) else (vp_in x3 9 ∧ (if (S.2 o 10 x3.toNatClampNeg) < 0 then (nmI (x3 + 1) (fun v8 => L_X4_eat_2 o Q n x1 x2 v8 S)) else (E_X4_isKeptBy o x1 x3 S (fun v10 S9 => if v10 = 0 then (vp_in x3 9 ∧ (nmS (stR S9 o 10 (upd (S9.2 o 10) x3.toNatClampNeg (-1))) (fun S12 => nmI (x3 + 1) (fun v13 => L_X4_eat_2 o Q n x1 x2 v13 S12)))) else (nmI (x3 + 1) (fun v11 => L_X4_eat_2 o Q n x1 x2 v11 S9))))))
set_option maxRecDepth 20000 in
theorem w_L_X4_eat_2 {E : EV} {Q : Int32 → St → Prop} {o : Nat}  (C : CX E cX4_eat RX4 7 enC 4 91) (ho : okO enC o 4)  (hR : RTi E cX4_eat Q) : ∀ (n : Nat) (x1 : Int32) (x2 : Int32) (x3 : Int32) (S : St), L_X4_eat_2 o Q n x1 x2 x3 S → CF E S 2 [(0, .ref (adr (vG E) o 0)), (1, .int x1), (2, .int x2), (3, .int x3)] [] := by
  intro n
  induction n with
  | zero =>
    intro x1 x2 x3 S hm
    exact hm.elim
  | succ n ih =>
    intro x1 x2 x3 S hm
    unfold L_X4_eat_2 at hm
    refine cf_iload_n C dX4_eat_2 rfl 3 rfl ?_
    refine cf_aload_n C dX4_eat_3 rfl 0 rfl ?_
    refine gf_4_2 C inX4 ho q121 dX4_eat_4 ?_
    refine cf_icmp_ge C (tgt := 41) dX4_eat_7 (by decide) hm (fun hm => ?_) (fun hm => ?_)
    · refine cf_iload_n C dX4_eat_41 rfl 2 rfl ?_
      refine cf_istore_n C (L1 := [(3, .int x2), (0, .ref (adr (vG E) o 0)), (1, .int x1), (2, .int x2)]) dX4_eat_42 rfl (by decide) rfl ?_
      refine cf_iconst C dX4_eat_43 (v := 0) rfl ?_
      refine cf_istore C (L1 := [(4, .int 0), (3, .int x2), (0, .ref (adr (vG E) o 0)), (1, .int x1), (2, .int x2)]) dX4_eat_44 (by decide) rfl ?_
      refine cf_sub C [2, 1, 0] rfl ?_
      obtain ⟨k, hm⟩ := hm
      exact w_L_X4_eat_46 C ho hR k x2 0 _ hm
    · refine cf_aload_n C dX4_eat_10 rfl 0 rfl ?_
      refine gf_4_10 C inX4 ho q141 dX4_eat_11 ?_
      refine cf_iload_n C dX4_eat_14 rfl 3 rfl ?_
      refine cf_iald C (okA_of 10 ho rfl (by decide) (by decide) (by decide)) dX4_eat_15 hm (fun hm => ?_)
      refine cf_if_lt C (tgt := 35) dX4_eat_16 (by decide) hm (fun hm => ?_) (fun hm => ?_)
      · refine cf_iincN C (L1 := fun v8 => [(3, .int v8), (0, .ref (adr (vG E) o 0)), (1, .int x1), (2, .int x2)]) dX4_eat_35 3 rfl rfl (by decide) (fun _ => rfl) hm (fun v8 hm => ?_)
        refine cf_goto C (tgt := 2) dX4_eat_38 (by decide) ?_
        refine cf_sub C [1, 2, 3, 0] rfl ?_
        exact ih x1 x2 v8 _ hm
      · refine cf_aload_n C dX4_eat_19 rfl 0 rfl ?_
        refine cf_iload_n C dX4_eat_20 rfl 1 rfl ?_
        refine cf_iload_n C dX4_eat_21 rfl 3 rfl ?_
        refine cf_callVi C [.int x1, .int x3] [] ho.1 (ocell_4 ho.2.1) rfl q371 q372 (c_X4_isKeptBy (vL E) (vG E) o x1 x3 _ _ ho hm) q490 q373 q68 md_X4_isKeptBy (Nat.le_of_ble_eq_true rfl) (Nat.le_of_ble_eq_true rfl) rfl rfl (Nat.le_of_ble_eq_true rfl) dX4_eat_22 (fun v10 S9 hm => ?_)
        refine cf_if_ne C (tgt := 35) dX4_eat_25 (by decide) hm (fun hm => ?_) (fun hm => ?_)
        · refine cf_iincN C (L1 := fun v11 => [(3, .int v11), (0, .ref (adr (vG E) o 0)), (1, .int x1), (2, .int x2)]) dX4_eat_35 3 rfl rfl (by decide) (fun _ => rfl) hm (fun v11 hm => ?_)
          refine cf_goto C (tgt := 2) dX4_eat_38 (by decide) ?_
          refine cf_sub C [1, 2, 3, 0] rfl ?_
          exact ih x1 x2 v11 _ hm
        · refine cf_aload_n C dX4_eat_28 rfl 0 rfl ?_
          refine gf_4_10 C inX4 ho q141 dX4_eat_29 ?_
          refine cf_iload_n C dX4_eat_32 rfl 3 rfl ?_
          refine cf_iconst C dX4_eat_33 (v := (-1)) rfl ?_
          refine cf_iast C (okA_of 10 ho rfl (by decide) (by decide) (by decide)) dX4_eat_34 hm (fun hm => ?_)
          refine cf_nmS hm (fun S12 hm => ?_)
          refine cf_iincN C (L1 := fun v13 => [(3, .int v13), (0, .ref (adr (vG E) o 0)), (1, .int x1), (2, .int x2)]) dX4_eat_35 3 rfl rfl (by decide) (fun _ => rfl) hm (fun v13 hm => ?_)
          refine cf_goto C (tgt := 2) dX4_eat_38 (by decide) ?_
          refine cf_sub C [1, 2, 3, 0] rfl ?_
          exact ih x1 x2 v13 _ hm
def E_X4_eat (o : Nat) (x1 : Int32) (x2 : Int32) (S : St) (Q : Int32 → St → Prop) : Prop := ∃ k, L_X4_eat_2 o Q k x1 x2 0 S
set_option maxRecDepth 20000 in
theorem c_X4_eat (l : Launch) (G : GX) (o : Nat) (x1 : Int32) (x2 : Int32) (S : St) (Q : Int32 → St → Prop) (ho : okO enC o 4) (hm : E_X4_eat o x1 x2 S Q) : CTi l yX4_eat (Cond.code yX4_eat cX4_eat 7 (some .int) :: AW) { frames := 4, cells := 0, slots := 0, locals := 91 } G enC [.ref (adr G o 0), .int x1, .int x2] S Q := by
  refine ct_start_i (by decide) enC_nd (Nat.le_of_ble_eq_true rfl) (fun E hG hl C hR => ?_)
  subst hG
  subst hl
  show CF E S 0 [(0, .ref (adr (vG E) o 0)), (1, .int x1), (2, .int x2)] []
  unfold E_X4_eat at hm
  refine cf_iconst C dX4_eat_0 (v := 0) rfl ?_
  refine cf_istore_n C (L1 := [(3, .int 0), (0, .ref (adr (vG E) o 0)), (1, .int x1), (2, .int x2)]) dX4_eat_1 rfl (by decide) rfl ?_
  refine cf_sub C [1, 2, 3, 0] rfl ?_
  obtain ⟨k, hm⟩ := hm
  exact w_L_X4_eat_2 C ho hR k x1 x2 0 _ hm

def L_X4_dine_12 (o : Nat)   (Q : Int32 → St → Prop) : Nat → Int32 → Int32 → St → Prop
  | 0 => fun _ _ _ => False
  | n + 1 => fun x2 x3 S => if (S.1 o 2) ≤ x3 then (nmS (stI S o 4 (if ((S.1 o 4) + x2) < 99999 then ((S.1 o 4) + x2) else 99999)) (fun S5 => nmS (stI S5 o 3 ((S5.1 o 3) + 1)) (fun S6 => Q x2 S6))) else (vp_in x3 9 ∧ (if (S.2 o 7 x3.toNatClampNeg) ≤ 0 then (nmI (x3 + 1) (fun v7 => L_X4_dine_12 o Q n x2 v7 S)) else (vp_in x3 9 ∧ (vp_in x3 9 ∧ (nmS (stR S o 8 (upd (S.2 o 8) x3.toNatClampNeg (if ((S.2 o 8 x3.toNatClampNeg) + 1) < 999 then ((S.2 o 8 x3.toNatClampNeg) + 1) else 999))) (fun S8 => vp_in x3 9 ∧ (E_X4_spoilOf o x3 S8 (fun v10 S9 => vp_in x3 9 ∧ (nmS (stR S9 o 7 (upd (S9.2 o 7) x3.toNatClampNeg (if (0 : Int32) < ((S8.2 o 7 x3.toNatClampNeg) - v10) then ((S8.2 o 7 x3.toNatClampNeg) - v10) else 0))) (fun S11 => nmI (x3 + 1) (fun v12 => L_X4_dine_12 o Q n x2 v12 S11)))))))))))
set_option maxRecDepth 20000 in
theorem w_L_X4_dine_12 {E : EV} {Q : Int32 → St → Prop} {o : Nat}  (C : CX E cX4_dine RX4 4 enC 5 117) (ho : okO enC o 4)  (hR : RTi E cX4_dine Q) : ∀ (n : Nat) (x2 : Int32) (x3 : Int32) (S : St), L_X4_dine_12 o Q n x2 x3 S → CF E S 12 [(0, .ref (adr (vG E) o 0)), (2, .int x2), (3, .int x3)] [] := by
  intro n
  induction n with
  | zero =>
    intro x2 x3 S hm
    exact hm.elim
  | succ n ih =>
    intro x2 x3 S hm
    unfold L_X4_dine_12 at hm
    refine cf_iload_n C dX4_dine_12 rfl 2 rfl ?_
    refine cf_aload_n C dX4_dine_13 rfl 0 rfl ?_
    refine gf_4_2 C inX4 ho q121 dX4_dine_14 ?_
    refine cf_icmp_ge C (tgt := 77) dX4_dine_17 (by decide) hm (fun hm => ?_) (fun hm => ?_)
    · refine cf_aload_n C dX4_dine_77 rfl 0 rfl ?_
      refine cf_ldc C dX4_dine_78 q497 ?_
      refine cf_aload_n C dX4_dine_80 rfl 0 rfl ?_
      refine gf_4_4 C inX4 ho q126 dX4_dine_81 ?_
      refine cf_iload_n C dX4_dine_84 rfl 1 rfl ?_
      refine cf_iadd C dX4_dine_85 ?_
      refine cf_mmin C q495 q355 q73 q356 (Nat.le_of_ble_eq_true rfl) (Nat.le_of_ble_eq_true rfl) (Nat.le_of_ble_eq_true rfl) dX4_dine_86 ?_
      refine pf_4_4 C inX4 ho q126 dX4_dine_89 ?_
      refine cf_nmS hm (fun S5 hm => ?_)
      refine cf_aload_n C dX4_dine_92 rfl 0 rfl ?_
      refine cf_dup C dX4_dine_93 rfl ?_
      refine gf_4_3 C inX4 ho q124 dX4_dine_94 ?_
      refine cf_iconst C dX4_dine_97 (v := 1) rfl ?_
      refine cf_iadd C dX4_dine_98 ?_
      refine pf_4_3 C inX4 ho q124 dX4_dine_99 ?_
      refine cf_nmS hm (fun S6 hm => ?_)
      refine cf_iload_n C dX4_dine_102 rfl 1 rfl ?_
      exact hR _ _ _ _ dX4_dine_103 hm
    · refine cf_aload_n C dX4_dine_20 rfl 0 rfl ?_
      refine gf_4_7 C inX4 ho q134 dX4_dine_21 ?_
      refine cf_iload_n C dX4_dine_24 rfl 2 rfl ?_
      refine cf_iald C (okA_of 7 ho rfl (by decide) (by decide) (by decide)) dX4_dine_25 hm (fun hm => ?_)
      refine cf_if_le C (tgt := 71) dX4_dine_26 (by decide) hm (fun hm => ?_) (fun hm => ?_)
      · refine cf_iincN C (L1 := fun v7 => [(3, .int v7), (0, .ref (adr (vG E) o 0)), (2, .int x2)]) dX4_dine_71 2 rfl rfl (by decide) (fun _ => rfl) hm (fun v7 hm => ?_)
        refine cf_goto C (tgt := 12) dX4_dine_74 (by decide) ?_
        refine cf_sub C [1, 2, 0] rfl ?_
        exact ih x2 v7 _ hm
      · refine cf_aload_n C dX4_dine_29 rfl 0 rfl ?_
        refine gf_4_8 C inX4 ho q137 dX4_dine_30 ?_
        refine cf_iload_n C dX4_dine_33 rfl 2 rfl ?_
        refine cf_sipush C dX4_dine_34 (v := 999) rfl ?_
        refine cf_aload_n C dX4_dine_37 rfl 0 rfl ?_
        refine gf_4_8 C inX4 ho q137 dX4_dine_38 ?_
        refine cf_iload_n C dX4_dine_41 rfl 2 rfl ?_
        refine cf_iald C (okA_of 8 ho rfl (by decide) (by decide) (by decide)) dX4_dine_42 hm (fun hm => ?_)
        refine cf_iconst C dX4_dine_43 (v := 1) rfl ?_
        refine cf_iadd C dX4_dine_44 ?_
        refine cf_mmin C q495 q355 q73 q356 (Nat.le_of_ble_eq_true rfl) (Nat.le_of_ble_eq_true rfl) (Nat.le_of_ble_eq_true rfl) dX4_dine_45 ?_
        refine cf_iast C (okA_of 8 ho rfl (by decide) (by decide) (by decide)) dX4_dine_48 hm (fun hm => ?_)
        refine cf_nmS hm (fun S8 hm => ?_)
        refine cf_aload_n C dX4_dine_49 rfl 0 rfl ?_
        refine gf_4_7 C inX4 ho q134 dX4_dine_50 ?_
        refine cf_iload_n C dX4_dine_53 rfl 2 rfl ?_
        refine cf_iconst C dX4_dine_54 (v := 0) rfl ?_
        refine cf_aload_n C dX4_dine_55 rfl 0 rfl ?_
        refine gf_4_7 C inX4 ho q134 dX4_dine_56 ?_
        refine cf_iload_n C dX4_dine_59 rfl 2 rfl ?_
        refine cf_iald C (okA_of 7 ho rfl (by decide) (by decide) (by decide)) dX4_dine_60 hm (fun hm => ?_)
        refine cf_aload_n C dX4_dine_61 rfl 0 rfl ?_
        refine cf_iload_n C dX4_dine_62 rfl 2 rfl ?_
        refine cf_callVi C [.int x3] [.int (S8.2 o 7 x3.toNatClampNeg), .int 0, .int x3, .ref (adr (vG E) o 8)] ho.1 (ocell_4 ho.2.1) rfl q361 q362 (c_X4_spoilOf (vL E) (vG E) o x3 _ _ ho hm) q496 q363 q68 md_X4_spoilOf (Nat.le_of_ble_eq_true rfl) (Nat.le_of_ble_eq_true rfl) rfl rfl (Nat.le_of_ble_eq_true rfl) dX4_dine_63 (fun v10 S9 hm => ?_)
        refine cf_isub C dX4_dine_66 ?_
        refine cf_mmax C q364 q358 q73 q359 (Nat.le_of_ble_eq_true rfl) (Nat.le_of_ble_eq_true rfl) (Nat.le_of_ble_eq_true rfl) dX4_dine_67 ?_
        refine cf_iast C (okA_of 7 ho rfl (by decide) (by decide) (by decide)) dX4_dine_70 hm (fun hm => ?_)
        refine cf_nmS hm (fun S11 hm => ?_)
        refine cf_iincN C (L1 := fun v12 => [(3, .int v12), (0, .ref (adr (vG E) o 0)), (2, .int x2)]) dX4_dine_71 2 rfl rfl (by decide) (fun _ => rfl) hm (fun v12 hm => ?_)
        refine cf_goto C (tgt := 12) dX4_dine_74 (by decide) ?_
        refine cf_sub C [1, 2, 0] rfl ?_
        exact ih x2 v12 _ hm
def E_X4_dine (o : Nat) (x1 : Int32) (S : St) (Q : Int32 → St → Prop) : Prop := E_X4_sayer o S (fun v2 S1 => E_X4_eat o v2 x1 S1 (fun v4 S3 => ∃ k, L_X4_dine_12 o Q k v4 0 S3))
set_option maxRecDepth 20000 in
theorem c_X4_dine (l : Launch) (G : GX) (o : Nat) (x1 : Int32) (S : St) (Q : Int32 → St → Prop) (ho : okO enC o 4) (hm : E_X4_dine o x1 S Q) : CTi l yX4_dine (Cond.code yX4_dine cX4_dine 4 (some .int) :: AW) { frames := 5, cells := 0, slots := 0, locals := 117 } G enC [.ref (adr G o 0), .int x1] S Q := by
  refine ct_start_i (by decide) enC_nd (Nat.le_of_ble_eq_true rfl) (fun E hG hl C hR => ?_)
  subst hG
  subst hl
  show CF E S 0 [(0, .ref (adr (vG E) o 0)), (1, .int x1)] []
  unfold E_X4_dine at hm
  refine cf_aload_n C dX4_dine_0 rfl 0 rfl ?_
  refine cf_aload_n C dX4_dine_1 rfl 0 rfl ?_
  refine cf_callVi C [] [.ref (adr (vG E) o 0)] ho.1 (ocell_4 ho.2.1) rfl q366 q367 (c_X4_sayer (vL E) (vG E) o _ _ ho hm) q485 q368 q68 md_X4_sayer (Nat.le_of_ble_eq_true rfl) (Nat.le_of_ble_eq_true rfl) rfl rfl (Nat.le_of_ble_eq_true rfl) dX4_dine_2 (fun v2 S1 hm => ?_)
  refine cf_iload_n C dX4_dine_5 rfl 1 rfl ?_
  refine cf_callVi C [.int v2, .int x1] [] ho.1 (ocell_4 ho.2.1) rfl q488 q10 (c_X4_eat (vL E) (vG E) o v2 x1 _ _ ho hm) q486 q489 q68 md_X4_eat (Nat.le_of_ble_eq_true rfl) (Nat.le_of_ble_eq_true rfl) rfl rfl (Nat.le_of_ble_eq_true rfl) dX4_dine_6 (fun v4 S3 hm => ?_)
  refine cf_istore_n C (L1 := [(2, .int v4), (0, .ref (adr (vG E) o 0)), (1, .int x1)]) dX4_dine_9 rfl (by decide) rfl ?_
  refine cf_iconst C dX4_dine_10 (v := 0) rfl ?_
  refine cf_istore_n C (L1 := [(3, .int 0), (2, .int v4), (0, .ref (adr (vG E) o 0)), (1, .int x1)]) dX4_dine_11 rfl (by decide) rfl ?_
  refine cf_sub C [2, 1, 0] rfl ?_
  obtain ⟨k, hm⟩ := hm
  exact w_L_X4_dine_12 C ho hR k v4 0 _ hm

def E_X6_meal (x1 : Int32) (S : St) (Q : Int32 → St → Prop) : Prop := E_X6_isHunger x1 S (fun v2 S1 => if v2 = 0 then (E_X6_wrong 1 S1 (fun v8 S7 => Q v8 S7)) else (if (S1.1 3 3) < 9999 then (E_X4_dine 3 x1 S1 (fun v4 S3 => Q v4 S3)) else (E_X6_wrong 3 S1 (fun v6 S5 => Q v6 S5))))
set_option maxRecDepth 20000 in
theorem c_X6_meal (l : Launch) (G : GX) (x1 : Int32) (S : St) (Q : Int32 → St → Prop)  (hm : E_X6_meal x1 S Q) : CTi l yX6_meal (Cond.code yX6_meal cX6_meal 2 (some .int) :: AW) { frames := 6, cells := 0, slots := 0, locals := 140 } G enC [.ref (adr G 0 0), .int x1] S Q := by
  refine ct_start_i (by decide) enC_nd (Nat.le_of_ble_eq_true rfl) (fun E hG hl C hR => ?_)
  subst hG
  subst hl
  show CF E S 0 [(0, .ref (adr (vG E) 0 0)), (1, .int x1)] []
  unfold E_X6_meal at hm
  refine cf_iload_n C dX6_meal_0 rfl 1 rfl ?_
  refine cf_callSi C [.int x1] [] q479 (c_X6_isHunger (vL E) (vG E) x1 _ _  hm) q478 q480 q65 md_X6_isHunger (Nat.le_of_ble_eq_true rfl) (Nat.le_of_ble_eq_true rfl) rfl rfl (Nat.le_of_ble_eq_true rfl) dX6_meal_1 (fun v2 S1 hm => ?_)
  refine cf_if_ne C (tgt := 13) dX6_meal_4 (by decide) hm (fun hm => ?_) (fun hm => ?_)
  · refine cf_aload_n C dX6_meal_13 rfl 0 rfl ?_
    refine gf_6_2 C inX6 okC_0 q278 dX6_meal_14 ?_
    refine gf_4_3 C inX4 okC_3 q125 dX6_meal_17 ?_
    refine cf_sipush C dX6_meal_20 (v := 9999) rfl ?_
    refine cf_icmp_lt C (tgt := 34) dX6_meal_23 (by decide) hm (fun hm => ?_) (fun hm => ?_)
    · refine cf_aload_n C dX6_meal_34 rfl 0 rfl ?_
      refine gf_6_2 C inX6 okC_0 q278 dX6_meal_35 ?_
      refine cf_iload_n C dX6_meal_38 rfl 1 rfl ?_
      refine cf_callVi C [.int x1] [] okC_3.1 (ocell_4 okC_3.2.1) rfl q482 q483 (c_X4_dine (vL E) (vG E) 3 x1 _ _ okC_3 hm) q481 q484 q68 md_X4_dine (Nat.le_of_ble_eq_true rfl) (Nat.le_of_ble_eq_true rfl) rfl rfl (Nat.le_of_ble_eq_true rfl) dX6_meal_39 (fun v4 S3 hm => ?_)
      exact hR _ _ _ _ dX6_meal_42 hm
    · refine cf_aload_n C dX6_meal_26 rfl 0 rfl ?_
      refine cf_iconst C dX6_meal_27 (v := 3) rfl ?_
      refine cf_callVi C [.int 3] [] okC_0.1 (ocell_6 okC_0.2.1) rfl q316 q0 (c_X6_wrong (vL E) (vG E) 3 _ _  hm) q314 q317 q65 md_X6_wrong (Nat.le_of_ble_eq_true rfl) (Nat.le_of_ble_eq_true rfl) rfl rfl (Nat.le_of_ble_eq_true rfl) dX6_meal_28 (fun v6 S5 hm => ?_)
      refine cf_goto C (tgt := 42) dX6_meal_31 (by decide) ?_
      exact hR _ _ _ _ dX6_meal_42 hm
  · refine cf_aload_n C dX6_meal_7 rfl 0 rfl ?_
    refine cf_iconst C dX6_meal_8 (v := 1) rfl ?_
    refine cf_callVi C [.int 1] [] okC_0.1 (ocell_6 okC_0.2.1) rfl q316 q0 (c_X6_wrong (vL E) (vG E) 1 _ _  hm) q314 q317 q65 md_X6_wrong (Nat.le_of_ble_eq_true rfl) (Nat.le_of_ble_eq_true rfl) rfl rfl (Nat.le_of_ble_eq_true rfl) dX6_meal_9 (fun v8 S7 hm => ?_)
    exact hR _ _ _ _ dX6_meal_12 hm
