def L_X6_judge_35    (Q : Int32 → St → Prop) : Nat → Nat → Int32 → St → Prop
  | 0 => fun _ _ _ => False
  | n + 1 => fun r2 x3 S => if (S.1 r2 1) ≤ x3 then (Q (S.1 r2 1) S) else (E_X4_has 3 x3 S (fun v7 S6 => if v7 = 0 then (Q x3 S6) else (vp_in x3 24 ∧ (E_X4_claimOf 3 x3 S6 (fun v9 S8 => if (S6.2 r2 2 x3.toNatClampNeg) = v9 then (nmI (x3 + 1) (fun v10 => L_X6_judge_35 Q n r2 v10 S8)) else (Q x3 S8))))))
set_option maxRecDepth 20000 in
theorem w_L_X6_judge_35 {E : EV} {Q : Int32 → St → Prop}   (C : CX E cX6_judge RX6 4 enC 4 90)   (hR : RTi E cX6_judge Q) : ∀ (n : Nat) (r2 : Nat) (x3 : Int32) (S : St), okO enC r2 3 → L_X6_judge_35 Q n r2 x3 S → CF E S 35 [(0, .ref (adr (vG E) 0 0)), (2, .ref (adr (vG E) r2 0)), (3, .int x3)] [] := by
  intro n
  induction n with
  | zero =>
    intro r2 x3 S hr2 hm
    exact hm.elim
  | succ n ih =>
    intro r2 x3 S hr2 hm
    unfold L_X6_judge_35 at hm
    refine cf_iload_n C dX6_judge_35 rfl 2 rfl ?_
    refine cf_aload_n C dX6_judge_36 rfl 1 rfl ?_
    refine gf_3_1 C inX3 hr2 q266 dX6_judge_37 ?_
    refine cf_icmp_ge C (tgt := 79) dX6_judge_40 (by decide) hm (fun hm => ?_) (fun hm => ?_)
    · refine cf_aload_n C dX6_judge_79 rfl 1 rfl ?_
      refine gf_3_1 C inX3 hr2 q266 dX6_judge_80 ?_
      exact hR _ _ _ _ dX6_judge_83 hm
    · refine cf_aload_n C dX6_judge_43 rfl 0 rfl ?_
      refine gf_6_2 C inX6 okC_0 q278 dX6_judge_44 ?_
      refine cf_iload_n C dX6_judge_47 rfl 2 rfl ?_
      refine cf_callVi C [.int x3] [] okC_3.1 (ocell_4 okC_3.2.1) rfl q328 q329 (c_X4_has (vL E) (vG E) 3 x3 _ _ okC_3 hm) q327 q330 q68 md_X4_has (Nat.le_of_ble_eq_true rfl) (Nat.le_of_ble_eq_true rfl) rfl rfl (Nat.le_of_ble_eq_true rfl) dX6_judge_48 (fun v7 S6 hm => ?_)
      refine cf_if_eq C (tgt := 71) dX6_judge_51 (by decide) hm (fun hm => ?_) (fun hm => ?_)
      · refine cf_iload_n C dX6_judge_71 rfl 2 rfl ?_
        exact hR _ _ _ _ dX6_judge_72 hm
      · refine cf_aload_n C dX6_judge_54 rfl 1 rfl ?_
        refine gf_3_2 C inX3 hr2 q268 dX6_judge_55 ?_
        refine cf_iload_n C dX6_judge_58 rfl 2 rfl ?_
        refine cf_iald C (okA_of 2 hr2 rfl (by decide) (by decide) (by decide)) dX6_judge_59 hm (fun hm => ?_)
        refine cf_aload_n C dX6_judge_60 rfl 0 rfl ?_
        refine gf_6_2 C inX6 okC_0 q278 dX6_judge_61 ?_
        refine cf_iload_n C dX6_judge_64 rfl 2 rfl ?_
        refine cf_callVi C [.int x3] [.int (S6.2 r2 2 x3.toNatClampNeg)] okC_3.1 (ocell_4 okC_3.2.1) rfl q332 q333 (c_X4_claimOf (vL E) (vG E) 3 x3 _ _ okC_3 hm) q331 q334 q68 md_X4_claimOf (Nat.le_of_ble_eq_true rfl) (Nat.le_of_ble_eq_true rfl) rfl rfl (Nat.le_of_ble_eq_true rfl) dX6_judge_65 (fun v9 S8 hm => ?_)
        refine cf_icmp_eq C (tgt := 73) dX6_judge_68 (by decide) hm (fun hm => ?_) (fun hm => ?_)
        · refine cf_iincN C (L1 := fun v10 => [(3, .int v10), (0, .ref (adr (vG E) 0 0)), (2, .ref (adr (vG E) r2 0))]) dX6_judge_73 2 rfl rfl (by decide) (fun _ => rfl) hm (fun v10 hm => ?_)
          refine cf_goto C (tgt := 35) dX6_judge_76 (by decide) ?_
          refine cf_sub C [1, 2, 0] rfl ?_
          exact ih r2 v10 _ hr2 hm
        · refine cf_iload_n C dX6_judge_71 rfl 2 rfl ?_
          exact hR _ _ _ _ dX6_judge_72 hm
def E_X6_judge (x1 : Int32) (S : St) (Q : Int32 → St → Prop) : Prop := E_X6_isSheet x1 S (fun v2 S1 => if v2 = 0 then (E_X6_wrong 1 S1 (fun v14 S13 => Q v14 S13)) else (vp_in x1 4 ∧ (E_X3_isMissing (13 + x1.toNatClampNeg) S1 (fun v5 S4 => if v5 = 0 then (∃ k, L_X6_judge_35 Q k (13 + x1.toNatClampNeg) 0 S4) else (E_X6_wrong 2 S4 (fun v12 S11 => Q v12 S11))))))
set_option maxRecDepth 20000 in
theorem c_X6_judge (l : Launch) (G : GX) (x1 : Int32) (S : St) (Q : Int32 → St → Prop)  (hm : E_X6_judge x1 S Q) : CTi l yX6_judge (Cond.code yX6_judge cX6_judge 4 (some .int) :: AW) { frames := 4, cells := 0, slots := 0, locals := 90 } G enC [.ref (adr G 0 0), .int x1] S Q := by
  refine ct_start_i (by decide) enC_nd (Nat.le_of_ble_eq_true rfl) (fun E hG hl C hR => ?_)
  subst hG
  subst hl
  show CF E S 0 [(0, .ref (adr (vG E) 0 0)), (1, .int x1)] []
  unfold E_X6_judge at hm
  refine cf_iload_n C dX6_judge_0 rfl 1 rfl ?_
  refine cf_callSi C [.int x1] [] q580 (c_X6_isSheet (vL E) (vG E) x1 _ _  hm) q579 q581 q65 md_X6_isSheet (Nat.le_of_ble_eq_true rfl) (Nat.le_of_ble_eq_true rfl) rfl rfl (Nat.le_of_ble_eq_true rfl) dX6_judge_1 (fun v2 S1 hm => ?_)
  refine cf_if_ne C (tgt := 13) dX6_judge_4 (by decide) hm (fun hm => ?_) (fun hm => ?_)
  · refine cf_aload_n C dX6_judge_13 rfl 0 rfl ?_
    refine gf_6_6 C inX6 okC_0 q282 dX6_judge_14 ?_
    refine cf_iload_n C dX6_judge_17 rfl 1 rfl ?_
    have hs3 := vp_lt hm.1
    refine cf_aald C dX6_judge_18 hm (fun hm => ?_)
    refine cf_astore_n C (L1 := [(2, .ref (adr (vG E) (13 + x1.toNatClampNeg) 0)), (0, .ref (adr (vG E) 0 0)), (1, .int x1)]) dX6_judge_19 rfl (by decide) rfl ?_
    refine cf_aload_n C dX6_judge_20 rfl 0 rfl ?_
    refine cf_callVi C [] [] (okC_sheet hs3).1 (ocell_3 (okC_sheet hs3).2.1) rfl q583 q584 (c_X3_isMissing (vL E) (vG E) (13 + x1.toNatClampNeg) _ _ (okC_sheet hs3) hm) q582 q585 q71 md_X3_isMissing (Nat.le_of_ble_eq_true rfl) (Nat.le_of_ble_eq_true rfl) rfl rfl (Nat.le_of_ble_eq_true rfl) dX6_judge_21 (fun v5 S4 hm => ?_)
    refine cf_if_eq C (tgt := 33) dX6_judge_24 (by decide) hm (fun hm => ?_) (fun hm => ?_)
    · refine cf_iconst C dX6_judge_33 (v := 0) rfl ?_
      refine cf_istore_n C (L1 := [(3, .int 0), (2, .ref (adr (vG E) (13 + x1.toNatClampNeg) 0)), (0, .ref (adr (vG E) 0 0)), (1, .int x1)]) dX6_judge_34 rfl (by decide) rfl ?_
      refine cf_sub C [2, 1, 0] rfl ?_
      obtain ⟨k, hm⟩ := hm
      exact w_L_X6_judge_35 C hR k (13 + x1.toNatClampNeg) 0 _ (okC_sheet hs3) hm
    · refine cf_aload_n C dX6_judge_27 rfl 1 rfl ?_
      refine cf_iconst C dX6_judge_28 (v := 2) rfl ?_
      refine cf_callVi C [.int 2] [] okC_0.1 (ocell_6 okC_0.2.1) rfl q316 q0 (c_X6_wrong (vL E) (vG E) 2 _ _  hm) q314 q317 q65 md_X6_wrong (Nat.le_of_ble_eq_true rfl) (Nat.le_of_ble_eq_true rfl) rfl rfl (Nat.le_of_ble_eq_true rfl) dX6_judge_29 (fun v12 S11 hm => ?_)
      exact hR _ _ _ _ dX6_judge_32 hm
  · refine cf_aload_n C dX6_judge_7 rfl 0 rfl ?_
    refine cf_iconst C dX6_judge_8 (v := 1) rfl ?_
    refine cf_callVi C [.int 1] [] okC_0.1 (ocell_6 okC_0.2.1) rfl q316 q0 (c_X6_wrong (vL E) (vG E) 1 _ _  hm) q314 q317 q65 md_X6_wrong (Nat.le_of_ble_eq_true rfl) (Nat.le_of_ble_eq_true rfl) rfl rfl (Nat.le_of_ble_eq_true rfl) dX6_judge_9 (fun v14 S13 hm => ?_)
    exact hR _ _ _ _ dX6_judge_12 hm

def E_X0_takeFrom (o : Nat) (p1 : Nat) (S : St) (Q : St → Prop) : Prop := E_X1_takeFrom (rf o 0) (rf p1 0) S (fun S1 => E_X1_takeFrom (rf o 1) (rf p1 1) S1 (fun S2 => E_X4_takeFrom (rf o 2) (rf p1 2) S2 (fun S3 => (¬ (0 : Int32) < 0 ∧ ¬ (0 : Int32) < 0 ∧ ¬ (60 : Int32) < 0 ∧ (0 : Int32).toNatClampNeg + (60 : Int32).toNatClampNeg ≤ 60 ∧ (0 : Int32).toNatClampNeg + (60 : Int32).toNatClampNeg ≤ 60) ∧ (nmS (stR S3 o 3 (va_cpy (S3.2 p1 3) (S3.2 o 3) (0 : Int32).toNatClampNeg (0 : Int32).toNatClampNeg (60 : Int32).toNatClampNeg)) (fun S4 => nmS (stI S4 o 4 (S4.1 p1 4)) (fun S5 => (¬ (0 : Int32) < 0 ∧ ¬ (0 : Int32) < 0 ∧ ¬ (24 : Int32) < 0 ∧ (0 : Int32).toNatClampNeg + (24 : Int32).toNatClampNeg ≤ 24 ∧ (0 : Int32).toNatClampNeg + (24 : Int32).toNatClampNeg ≤ 24) ∧ (nmS (stR S5 o 5 (va_cpy (S5.2 p1 5) (S5.2 o 5) (0 : Int32).toNatClampNeg (0 : Int32).toNatClampNeg (24 : Int32).toNatClampNeg)) (fun S6 => nmS (stI S6 o 6 (S6.1 p1 6)) (fun S7 => nmS (stI S7 o 7 (S7.1 p1 7)) (fun S8 => Q S8))))))))))
set_option maxRecDepth 20000 in
theorem c_X0_takeFrom (l : Launch) (G : GX) (o : Nat) (p1 : Nat) (S : St) (Q : St → Prop) (ho : okO enC o 0) (h1 : okO enC p1 0) (hm : E_X0_takeFrom o p1 S Q) : CTv l yX0_takeFrom (Cond.code yX0_takeFrom cX0_takeFrom 2 none :: AW) { frames := 2, cells := 0, slots := 0, locals := 93 } G enC [.ref (adr G o 0), .ref (adr G p1 0)] S Q := by
  refine ct_start_v (by decide) enC_nd (Nat.le_of_ble_eq_true rfl) (fun E hG hl C hR => ?_)
  subst hG
  subst hl
  show CF E S 0 [(0, .ref (adr (vG E) o 0)), (1, .ref (adr (vG E) p1 0))] []
  unfold E_X0_takeFrom at hm
  refine cf_aload_n C dX0_takeFrom_0 rfl 0 rfl ?_
  refine gf_0_0 C inX0 ho q165 dX0_takeFrom_1 ?_
  refine cf_aload_n C dX0_takeFrom_4 rfl 1 rfl ?_
  refine gf_0_0 C inX0 h1 q165 dX0_takeFrom_5 ?_
  refine cf_callVv C [.ref (adr (vG E) (rf p1 0) 0)] [] (okC_0_0 ho).1 (ocell_1 (okC_0_0 ho).2.1) rfl q460 q461 (c_X1_takeFrom (vL E) (vG E) (rf o 0) (rf p1 0) _ _ (okC_0_0 ho) (okC_0_0 h1) hm) q665 q462 q67 md_X1_takeFrom (Nat.le_of_ble_eq_true rfl) (Nat.le_of_ble_eq_true rfl) rfl rfl (Nat.le_of_ble_eq_true rfl) dX0_takeFrom_8 (fun S1 hm => ?_)
  refine cf_aload_n C dX0_takeFrom_11 rfl 0 rfl ?_
  refine gf_0_1 C inX0 ho q167 dX0_takeFrom_12 ?_
  refine cf_aload_n C dX0_takeFrom_15 rfl 1 rfl ?_
  refine gf_0_1 C inX0 h1 q167 dX0_takeFrom_16 ?_
  refine cf_callVv C [.ref (adr (vG E) (rf p1 1) 0)] [] (okC_0_1 ho).1 (ocell_1 (okC_0_1 ho).2.1) rfl q460 q461 (c_X1_takeFrom (vL E) (vG E) (rf o 1) (rf p1 1) _ _ (okC_0_1 ho) (okC_0_1 h1) hm) q665 q462 q67 md_X1_takeFrom (Nat.le_of_ble_eq_true rfl) (Nat.le_of_ble_eq_true rfl) rfl rfl (Nat.le_of_ble_eq_true rfl) dX0_takeFrom_19 (fun S2 hm => ?_)
  refine cf_aload_n C dX0_takeFrom_22 rfl 0 rfl ?_
  refine gf_0_2 C inX0 ho q170 dX0_takeFrom_23 ?_
  refine cf_aload_n C dX0_takeFrom_26 rfl 1 rfl ?_
  refine gf_0_2 C inX0 h1 q170 dX0_takeFrom_27 ?_
  refine cf_callVv C [.ref (adr (vG E) (rf p1 2) 0)] [] (okC_0_2 ho).1 (ocell_4 (okC_0_2 ho).2.1) rfl q535 q536 (c_X4_takeFrom (vL E) (vG E) (rf o 2) (rf p1 2) _ _ (okC_0_2 ho) (okC_0_2 h1) hm) q666 q537 q68 md_X4_takeFrom (Nat.le_of_ble_eq_true rfl) (Nat.le_of_ble_eq_true rfl) rfl rfl (Nat.le_of_ble_eq_true rfl) dX0_takeFrom_30 (fun S3 hm => ?_)
  refine cf_aload_n C dX0_takeFrom_33 rfl 1 rfl ?_
  refine gf_0_3 C inX0 h1 q171 dX0_takeFrom_34 ?_
  refine cf_iconst C dX0_takeFrom_37 (v := 0) rfl ?_
  refine cf_aload_n C dX0_takeFrom_38 rfl 0 rfl ?_
  refine gf_0_3 C inX0 ho q171 dX0_takeFrom_39 ?_
  refine cf_iconst C dX0_takeFrom_42 (v := 0) rfl ?_
  refine cf_bipush C dX0_takeFrom_43 (v := 60) rfl ?_
  refine cf_copy C (okA_of 3 h1 rfl (by decide) (by decide) (by decide)) (okA_of 3 ho rfl (by decide) (by decide) (by decide)) q667 q414 q413 q74 (Nat.le_of_ble_eq_true rfl) (Nat.le_of_ble_eq_true rfl) (Nat.le_of_ble_eq_true rfl) dX0_takeFrom_45 hm (fun hm => ?_)
  refine cf_nmS hm (fun S4 hm => ?_)
  refine cf_aload_n C dX0_takeFrom_48 rfl 0 rfl ?_
  refine cf_aload_n C dX0_takeFrom_49 rfl 1 rfl ?_
  refine gf_0_4 C inX0 h1 q173 dX0_takeFrom_50 ?_
  refine pf_0_4 C inX0 ho q173 dX0_takeFrom_53 ?_
  refine cf_nmS hm (fun S5 hm => ?_)
  refine cf_aload_n C dX0_takeFrom_56 rfl 1 rfl ?_
  refine gf_0_5 C inX0 h1 q175 dX0_takeFrom_57 ?_
  refine cf_iconst C dX0_takeFrom_60 (v := 0) rfl ?_
  refine cf_aload_n C dX0_takeFrom_61 rfl 0 rfl ?_
  refine gf_0_5 C inX0 ho q175 dX0_takeFrom_62 ?_
  refine cf_iconst C dX0_takeFrom_65 (v := 0) rfl ?_
  refine cf_bipush C dX0_takeFrom_66 (v := 24) rfl ?_
  refine cf_copy C (okA_of 5 h1 rfl (by decide) (by decide) (by decide)) (okA_of 5 ho rfl (by decide) (by decide) (by decide)) q667 q414 q413 q74 (Nat.le_of_ble_eq_true rfl) (Nat.le_of_ble_eq_true rfl) (Nat.le_of_ble_eq_true rfl) dX0_takeFrom_68 hm (fun hm => ?_)
  refine cf_nmS hm (fun S6 hm => ?_)
  refine cf_aload_n C dX0_takeFrom_71 rfl 0 rfl ?_
  refine cf_aload_n C dX0_takeFrom_72 rfl 1 rfl ?_
  refine gf_0_6 C inX0 h1 q177 dX0_takeFrom_73 ?_
  refine pf_0_6 C inX0 ho q177 dX0_takeFrom_76 ?_
  refine cf_nmS hm (fun S7 hm => ?_)
  refine cf_aload_n C dX0_takeFrom_79 rfl 0 rfl ?_
  refine cf_aload_n C dX0_takeFrom_80 rfl 1 rfl ?_
  refine gf_0_7 C inX0 h1 q179 dX0_takeFrom_81 ?_
  refine pf_0_7 C inX0 ho q179 dX0_takeFrom_84 ?_
  refine cf_nmS hm (fun S8 hm => ?_)
  exact hR _ _ _ dX0_takeFrom_87 hm

def E_X6_image  (S : St) (Q : Int32 → St → Prop) : Prop := E_X0_takeFrom 2 1 S (fun S1 => nmS (stI S1 0 8 ((S1.1 0 8) + 1)) (fun S2 => Q (S2.1 0 8) S2))
set_option maxRecDepth 20000 in
theorem c_X6_image (l : Launch) (G : GX)  (S : St) (Q : Int32 → St → Prop)  (hm : E_X6_image  S Q) : CTi l yX6_image (Cond.code yX6_image cX6_image 1 (some .int) :: AW) { frames := 3, cells := 0, slots := 0, locals := 114 } G enC [.ref (adr G 0 0)] S Q := by
  refine ct_start_i (by decide) enC_nd (Nat.le_of_ble_eq_true rfl) (fun E hG hl C hR => ?_)
  subst hG
  subst hl
  show CF E S 0 [(0, .ref (adr (vG E) 0 0))] []
  unfold E_X6_image at hm
  refine cf_aload_n C dX6_image_0 rfl 0 rfl ?_
  refine gf_6_1 C inX6 okC_0 q277 dX6_image_1 ?_
  refine cf_aload_n C dX6_image_4 rfl 0 rfl ?_
  refine gf_6_0 C inX6 okC_0 q276 dX6_image_5 ?_
  refine cf_callVv C [.ref (adr (vG E) 1 0)] [] okC_2.1 (ocell_0 okC_2.2.1) rfl q662 q663 (c_X0_takeFrom (vL E) (vG E) 2 1 _ _ okC_2 okC_1 hm) q661 q664 q66 md_X0_takeFrom (Nat.le_of_ble_eq_true rfl) (Nat.le_of_ble_eq_true rfl) rfl rfl (Nat.le_of_ble_eq_true rfl) dX6_image_8 (fun S1 hm => ?_)
  refine cf_aload_n C dX6_image_11 rfl 0 rfl ?_
  refine cf_dup C dX6_image_12 rfl ?_
  refine gf_6_8 C inX6 okC_0 q284 dX6_image_13 ?_
  refine cf_iconst C dX6_image_16 (v := 1) rfl ?_
  refine cf_iadd C dX6_image_17 ?_
  refine pf_6_8 C inX6 okC_0 q284 dX6_image_18 ?_
  refine cf_nmS hm (fun S2 hm => ?_)
  refine cf_aload_n C dX6_image_21 rfl 0 rfl ?_
  refine gf_6_8 C inX6 okC_0 q284 dX6_image_22 ?_
  exact hR _ _ _ _ dX6_image_25 hm

def E_X6_restore  (S : St) (Q : Int32 → St → Prop) : Prop := if (S.1 0 8) = 0 then (E_X6_wrong 2 S (fun v3 S2 => Q v3 S2)) else (E_X0_takeFrom 1 2 S (fun S1 => Q (S1.1 3 3) S1))
set_option maxRecDepth 20000 in
theorem c_X6_restore (l : Launch) (G : GX)  (S : St) (Q : Int32 → St → Prop)  (hm : E_X6_restore  S Q) : CTi l yX6_restore (Cond.code yX6_restore cX6_restore 1 (some .int) :: AW) { frames := 3, cells := 0, slots := 0, locals := 114 } G enC [.ref (adr G 0 0)] S Q := by
  refine ct_start_i (by decide) enC_nd (Nat.le_of_ble_eq_true rfl) (fun E hG hl C hR => ?_)
  subst hG
  subst hl
  show CF E S 0 [(0, .ref (adr (vG E) 0 0))] []
  unfold E_X6_restore at hm
  refine cf_aload_n C dX6_restore_0 rfl 0 rfl ?_
  refine gf_6_8 C inX6 okC_0 q284 dX6_restore_1 ?_
  refine cf_if_ne C (tgt := 13) dX6_restore_4 (by decide) hm (fun hm => ?_) (fun hm => ?_)
  · refine cf_aload_n C dX6_restore_13 rfl 0 rfl ?_
    refine gf_6_0 C inX6 okC_0 q276 dX6_restore_14 ?_
    refine cf_aload_n C dX6_restore_17 rfl 0 rfl ?_
    refine gf_6_1 C inX6 okC_0 q277 dX6_restore_18 ?_
    refine cf_callVv C [.ref (adr (vG E) 2 0)] [] okC_1.1 (ocell_0 okC_1.2.1) rfl q662 q663 (c_X0_takeFrom (vL E) (vG E) 1 2 _ _ okC_1 okC_2 hm) q661 q664 q66 md_X0_takeFrom (Nat.le_of_ble_eq_true rfl) (Nat.le_of_ble_eq_true rfl) rfl rfl (Nat.le_of_ble_eq_true rfl) dX6_restore_21 (fun S1 hm => ?_)
    refine cf_aload_n C dX6_restore_24 rfl 0 rfl ?_
    refine gf_6_2 C inX6 okC_0 q278 dX6_restore_25 ?_
    refine gf_4_3 C inX4 okC_3 q125 dX6_restore_28 ?_
    exact hR _ _ _ _ dX6_restore_31 hm
  · refine cf_aload_n C dX6_restore_7 rfl 0 rfl ?_
    refine cf_iconst C dX6_restore_8 (v := 2) rfl ?_
    refine cf_callVi C [.int 2] [] okC_0.1 (ocell_6 okC_0.2.1) rfl q316 q0 (c_X6_wrong (vL E) (vG E) 2 _ _  hm) q314 q317 q65 md_X6_wrong (Nat.le_of_ble_eq_true rfl) (Nat.le_of_ble_eq_true rfl) rfl rfl (Nat.le_of_ble_eq_true rfl) dX6_restore_9 (fun v3 S2 hm => ?_)
    exact hR _ _ _ _ dX6_restore_12 hm

def E_X6_tell (x1 : Int32) (S : St) (Q : Int32 → St → Prop) : Prop := if (S.1 1 6) < 24 then (vp_in (S.1 1 6) 24 ∧ (nmS (stR S 1 5 (upd (S.2 1 5) (S.1 1 6).toNatClampNeg x1)) (fun S1 => nmS (stI S1 1 6 ((S1.1 1 6) + 1)) (fun S2 => Q (S2.1 1 6) S2)))) else (E_X6_wrong 4 S (fun v4 S3 => Q v4 S3))
set_option maxRecDepth 20000 in
theorem c_X6_tell (l : Launch) (G : GX) (x1 : Int32) (S : St) (Q : Int32 → St → Prop)  (hm : E_X6_tell x1 S Q) : CTi l yX6_tell (Cond.code yX6_tell cX6_tell 2 (some .int) :: AW) { frames := 1, cells := 0, slots := 0, locals := 21 } G enC [.ref (adr G 0 0), .int x1] S Q := by
  refine ct_start_i (by decide) enC_nd (Nat.le_of_ble_eq_true rfl) (fun E hG hl C hR => ?_)
  subst hG
  subst hl
  show CF E S 0 [(0, .ref (adr (vG E) 0 0)), (1, .int x1)] []
  unfold E_X6_tell at hm
  refine cf_aload_n C dX6_tell_0 rfl 0 rfl ?_
  refine gf_6_0 C inX6 okC_0 q276 dX6_tell_1 ?_
  refine gf_0_6 C inX0 okC_1 q178 dX6_tell_4 ?_
  refine cf_bipush C dX6_tell_7 (v := 24) rfl ?_
  refine cf_icmp_lt C (tgt := 18) dX6_tell_9 (by decide) hm (fun hm => ?_) (fun hm => ?_)
  · refine cf_aload_n C dX6_tell_18 rfl 0 rfl ?_
    refine gf_6_0 C inX6 okC_0 q276 dX6_tell_19 ?_
    refine gf_0_5 C inX0 okC_1 q176 dX6_tell_22 ?_
    refine cf_aload_n C dX6_tell_25 rfl 0 rfl ?_
    refine gf_6_0 C inX6 okC_0 q276 dX6_tell_26 ?_
    refine gf_0_6 C inX0 okC_1 q178 dX6_tell_29 ?_
    refine cf_iload_n C dX6_tell_32 rfl 1 rfl ?_
    refine cf_iast C (okA_of 5 okC_1 rfl (by decide) (by decide) (by decide)) dX6_tell_33 hm (fun hm => ?_)
    refine cf_nmS hm (fun S1 hm => ?_)
    refine cf_aload_n C dX6_tell_34 rfl 0 rfl ?_
    refine gf_6_0 C inX6 okC_0 q276 dX6_tell_35 ?_
    refine cf_dup C dX6_tell_38 rfl ?_
    refine gf_0_6 C inX0 okC_1 q178 dX6_tell_39 ?_
    refine cf_iconst C dX6_tell_42 (v := 1) rfl ?_
    refine cf_iadd C dX6_tell_43 ?_
    refine pf_0_6 C inX0 okC_1 q178 dX6_tell_44 ?_
    refine cf_nmS hm (fun S2 hm => ?_)
    refine cf_aload_n C dX6_tell_47 rfl 0 rfl ?_
    refine gf_6_0 C inX6 okC_0 q276 dX6_tell_48 ?_
    refine gf_0_6 C inX0 okC_1 q178 dX6_tell_51 ?_
    exact hR _ _ _ _ dX6_tell_54 hm
  · refine cf_aload_n C dX6_tell_12 rfl 0 rfl ?_
    refine cf_iconst C dX6_tell_13 (v := 4) rfl ?_
    refine cf_callVi C [.int 4] [] okC_0.1 (ocell_6 okC_0.2.1) rfl q316 q0 (c_X6_wrong (vL E) (vG E) 4 _ _  hm) q314 q317 q65 md_X6_wrong (Nat.le_of_ble_eq_true rfl) (Nat.le_of_ble_eq_true rfl) rfl rfl (Nat.le_of_ble_eq_true rfl) dX6_tell_14 (fun v4 S3 hm => ?_)
    exact hR _ _ _ _ dX6_tell_17 hm

def L_X6_check_18    (Q : Int32 → St → Prop) : Nat → Int32 → Int32 → St → Prop
  | 0 => fun _ _ _ => False
  | n + 1 => fun x1 x2 S => if x1 ≤ x2 then (Q 0 S) else (E_X4_has 3 x2 S (fun v4 S3 => if v4 = 0 then (Q (1 + x2) S3) else (vp_in x2 24 ∧ (vp_in x2 9 ∧ (if (S3.2 1 5 x2.toNatClampNeg) = (S3.2 3 8 x2.toNatClampNeg) then (nmI (x2 + 1) (fun v5 => L_X6_check_18 Q n x1 v5 S3)) else (Q (1 + x2) S3))))))
set_option maxRecDepth 20000 in
theorem w_L_X6_check_18 {E : EV} {Q : Int32 → St → Prop}   (C : CX E cX6_check RX6 3 enC 1 21)   (hR : RTi E cX6_check Q) : ∀ (n : Nat) (x1 : Int32) (x2 : Int32) (S : St), L_X6_check_18 Q n x1 x2 S → CF E S 18 [(0, .ref (adr (vG E) 0 0)), (1, .int x1), (2, .int x2)] [] := by
  intro n
  induction n with
  | zero =>
    intro x1 x2 S hm
    exact hm.elim
  | succ n ih =>
    intro x1 x2 S hm
    unfold L_X6_check_18 at hm
    refine cf_iload_n C dX6_check_18 rfl 2 rfl ?_
    refine cf_iload_n C dX6_check_19 rfl 1 rfl ?_
    refine cf_icmp_ge C (tgt := 65) dX6_check_20 (by decide) hm (fun hm => ?_) (fun hm => ?_)
    · refine cf_iconst C dX6_check_65 (v := 0) rfl ?_
      exact hR _ _ _ _ dX6_check_66 hm
    · refine cf_aload_n C dX6_check_23 rfl 0 rfl ?_
      refine gf_6_2 C inX6 okC_0 q278 dX6_check_24 ?_
      refine cf_iload_n C dX6_check_27 rfl 2 rfl ?_
      refine cf_callVi C [.int x2] [] okC_3.1 (ocell_4 okC_3.2.1) rfl q328 q329 (c_X4_has (vL E) (vG E) 3 x2 _ _ okC_3 hm) q327 q330 q68 md_X4_has (Nat.le_of_ble_eq_true rfl) (Nat.le_of_ble_eq_true rfl) rfl rfl (Nat.le_of_ble_eq_true rfl) dX6_check_28 (fun v4 S3 hm => ?_)
      refine cf_if_eq C (tgt := 55) dX6_check_31 (by decide) hm (fun hm => ?_) (fun hm => ?_)
      · refine cf_iconst C dX6_check_55 (v := 1) rfl ?_
        refine cf_iload_n C dX6_check_56 rfl 2 rfl ?_
        refine cf_iadd C dX6_check_57 ?_
        exact hR _ _ _ _ dX6_check_58 hm
      · refine cf_aload_n C dX6_check_34 rfl 0 rfl ?_
        refine gf_6_0 C inX6 okC_0 q276 dX6_check_35 ?_
        refine gf_0_5 C inX0 okC_1 q176 dX6_check_38 ?_
        refine cf_iload_n C dX6_check_41 rfl 2 rfl ?_
        refine cf_iald C (okA_of 5 okC_1 rfl (by decide) (by decide) (by decide)) dX6_check_42 hm (fun hm => ?_)
        refine cf_aload_n C dX6_check_43 rfl 0 rfl ?_
        refine gf_6_2 C inX6 okC_0 q278 dX6_check_44 ?_
        refine gf_4_8 C inX4 okC_3 q138 dX6_check_47 ?_
        refine cf_iload_n C dX6_check_50 rfl 2 rfl ?_
        refine cf_iald C (okA_of 8 okC_3 rfl (by decide) (by decide) (by decide)) dX6_check_51 hm (fun hm => ?_)
        refine cf_icmp_eq C (tgt := 59) dX6_check_52 (by decide) hm (fun hm => ?_) (fun hm => ?_)
        · refine cf_iincN C (L1 := fun v5 => [(2, .int v5), (0, .ref (adr (vG E) 0 0)), (1, .int x1)]) dX6_check_59 2 rfl rfl (by decide) (fun _ => rfl) hm (fun v5 hm => ?_)
          refine cf_goto C (tgt := 18) dX6_check_62 (by decide) ?_
          refine cf_sub C [1, 2, 0] rfl ?_
          exact ih x1 v5 _ hm
        · refine cf_iconst C dX6_check_55 (v := 1) rfl ?_
          refine cf_iload_n C dX6_check_56 rfl 2 rfl ?_
          refine cf_iadd C dX6_check_57 ?_
          exact hR _ _ _ _ dX6_check_58 hm
def E_X6_check  (S : St) (Q : Int32 → St → Prop) : Prop := nmI (S.1 1 6) (fun v1 => nmS (stI S 1 6 0) (fun S2 => ∃ k, L_X6_check_18 Q k v1 0 S2))
set_option maxRecDepth 20000 in
theorem c_X6_check (l : Launch) (G : GX)  (S : St) (Q : Int32 → St → Prop)  (hm : E_X6_check  S Q) : CTi l yX6_check (Cond.code yX6_check cX6_check 3 (some .int) :: AW) { frames := 1, cells := 0, slots := 0, locals := 21 } G enC [.ref (adr G 0 0)] S Q := by
  refine ct_start_i (by decide) enC_nd (Nat.le_of_ble_eq_true rfl) (fun E hG hl C hR => ?_)
  subst hG
  subst hl
  show CF E S 0 [(0, .ref (adr (vG E) 0 0))] []
  unfold E_X6_check at hm
  refine cf_aload_n C dX6_check_0 rfl 0 rfl ?_
  refine gf_6_0 C inX6 okC_0 q276 dX6_check_1 ?_
  refine gf_0_6 C inX0 okC_1 q178 dX6_check_4 ?_
  refine cf_nmI hm (fun v1 hm => ?_)
  refine cf_istore_n C (L1 := [(1, .int v1), (0, .ref (adr (vG E) 0 0))]) dX6_check_7 rfl (by decide) rfl ?_
  refine cf_aload_n C dX6_check_8 rfl 1 rfl ?_
  refine gf_6_0 C inX6 okC_0 q276 dX6_check_9 ?_
  refine cf_iconst C dX6_check_12 (v := 0) rfl ?_
  refine pf_0_6 C inX0 okC_1 q178 dX6_check_13 ?_
  refine cf_nmS hm (fun S2 hm => ?_)
  refine cf_iconst C dX6_check_16 (v := 0) rfl ?_
  refine cf_istore_n C (L1 := [(2, .int 0), (1, .int v1), (0, .ref (adr (vG E) 0 0))]) dX6_check_17 rfl (by decide) rfl ?_
  refine cf_sub C [2, 1, 0] rfl ?_
  obtain ⟨k, hm⟩ := hm
  exact w_L_X6_check_18 C hR k v1 0 _ hm

def E_X6_count (x1 : Int32) (S : St) (Q : Int32 → St → Prop) : Prop := if x1 = 0 then (Q (S.1 3 2) S) else (if x1 = 1 then (E_X4_left 3 S (fun v2 S1 => Q v2 S1)) else (if x1 = 2 then (Q (S.1 3 3) S) else (if x1 = 3 then (Q (S.1 3 4) S) else (if x1 = 4 then (Q (S.1 1 4) S) else (if x1 = 5 then (Q (S.1 1 6) S) else (if x1 = 6 then (Q (S.1 12 1) S) else (if x1 = 7 then (Q (S.1 1 7) S) else (E_X6_wrong 1 S (fun v4 S3 => Q v4 S3)))))))))
set_option maxRecDepth 20000 in
theorem c_X6_count (l : Launch) (G : GX) (x1 : Int32) (S : St) (Q : Int32 → St → Prop)  (hm : E_X6_count x1 S Q) : CTi l yX6_count (Cond.code yX6_count cX6_count 2 (some .int) :: AW) { frames := 1, cells := 0, slots := 0, locals := 22 } G enC [.ref (adr G 0 0), .int x1] S Q := by
  refine ct_start_i (by decide) enC_nd (Nat.le_of_ble_eq_true rfl) (fun E hG hl C hR => ?_)
  subst hG
  subst hl
  show CF E S 0 [(0, .ref (adr (vG E) 0 0)), (1, .int x1)] []
  unfold E_X6_count at hm
  refine cf_iload_n C dX6_count_0 rfl 1 rfl ?_
  rcases ifc hm with ⟨hx, hm⟩ | ⟨h1_0, hm⟩
  · refine cf_tsIn C 0 dX6_count_1 (by rw [hx]; rfl) (by decide) (by decide) (off := 47) (by rfl) (tgt := 48) (by decide) ?_
    refine cf_aload_n C dX6_count_48 rfl 0 rfl ?_
    refine gf_6_2 C inX6 okC_0 q278 dX6_count_49 ?_
    refine gf_4_2 C inX4 okC_3 q122 dX6_count_52 ?_
    exact hR _ _ _ _ dX6_count_55 hm
  rcases ifc hm with ⟨hx, hm⟩ | ⟨h1_1, hm⟩
  · refine cf_tsIn C 1 dX6_count_1 (by rw [hx]; rfl) (by decide) (by decide) (off := 55) (by rfl) (tgt := 56) (by decide) ?_
    refine cf_aload_n C dX6_count_56 rfl 0 rfl ?_
    refine gf_6_2 C inX6 okC_0 q278 dX6_count_57 ?_
    refine cf_callVi C [] [] okC_3.1 (ocell_4 okC_3.2.1) rfl q508 q509 (c_X4_left (vL E) (vG E) 3 _ _ okC_3 hm) q507 q510 q68 md_X4_left (Nat.le_of_ble_eq_true rfl) (Nat.le_of_ble_eq_true rfl) rfl rfl (Nat.le_of_ble_eq_true rfl) dX6_count_60 (fun v2 S1 hm => ?_)
    exact hR _ _ _ _ dX6_count_63 hm
  rcases ifc hm with ⟨hx, hm⟩ | ⟨h1_2, hm⟩
  · refine cf_tsIn C 2 dX6_count_1 (by rw [hx]; rfl) (by decide) (by decide) (off := 63) (by rfl) (tgt := 64) (by decide) ?_
    refine cf_aload_n C dX6_count_64 rfl 0 rfl ?_
    refine gf_6_2 C inX6 okC_0 q278 dX6_count_65 ?_
    refine gf_4_3 C inX4 okC_3 q125 dX6_count_68 ?_
    exact hR _ _ _ _ dX6_count_71 hm
  rcases ifc hm with ⟨hx, hm⟩ | ⟨h1_3, hm⟩
  · refine cf_tsIn C 3 dX6_count_1 (by rw [hx]; rfl) (by decide) (by decide) (off := 71) (by rfl) (tgt := 72) (by decide) ?_
    refine cf_aload_n C dX6_count_72 rfl 0 rfl ?_
    refine gf_6_2 C inX6 okC_0 q278 dX6_count_73 ?_
    refine gf_4_4 C inX4 okC_3 q127 dX6_count_76 ?_
    exact hR _ _ _ _ dX6_count_79 hm
  rcases ifc hm with ⟨hx, hm⟩ | ⟨h1_4, hm⟩
  · refine cf_tsIn C 4 dX6_count_1 (by rw [hx]; rfl) (by decide) (by decide) (off := 79) (by rfl) (tgt := 80) (by decide) ?_
    refine cf_aload_n C dX6_count_80 rfl 0 rfl ?_
    refine gf_6_0 C inX6 okC_0 q276 dX6_count_81 ?_
    refine gf_0_4 C inX0 okC_1 q174 dX6_count_84 ?_
    exact hR _ _ _ _ dX6_count_87 hm
  rcases ifc hm with ⟨hx, hm⟩ | ⟨h1_5, hm⟩
  · refine cf_tsIn C 5 dX6_count_1 (by rw [hx]; rfl) (by decide) (by decide) (off := 87) (by rfl) (tgt := 88) (by decide) ?_
    refine cf_aload_n C dX6_count_88 rfl 0 rfl ?_
    refine gf_6_0 C inX6 okC_0 q276 dX6_count_89 ?_
    refine gf_0_6 C inX0 okC_1 q178 dX6_count_92 ?_
    exact hR _ _ _ _ dX6_count_95 hm
  rcases ifc hm with ⟨hx, hm⟩ | ⟨h1_6, hm⟩
  · refine cf_tsIn C 6 dX6_count_1 (by rw [hx]; rfl) (by decide) (by decide) (off := 95) (by rfl) (tgt := 96) (by decide) ?_
    refine cf_aload_n C dX6_count_96 rfl 0 rfl ?_
    refine gf_6_5 C inX6 okC_0 q281 dX6_count_97 ?_
    refine gf_5_1 C inX5 okC_12 q237 dX6_count_100 ?_
    exact hR _ _ _ _ dX6_count_103 hm
  rcases ifc hm with ⟨hx, hm⟩ | ⟨h1_7, hm⟩
  · refine cf_tsIn C 7 dX6_count_1 (by rw [hx]; rfl) (by decide) (by decide) (off := 103) (by rfl) (tgt := 104) (by decide) ?_
    refine cf_aload_n C dX6_count_104 rfl 0 rfl ?_
    refine gf_6_0 C inX6 okC_0 q276 dX6_count_105 ?_
    refine gf_0_7 C inX0 okC_1 q180 dX6_count_108 ?_
    exact hR _ _ _ _ dX6_count_111 hm
  refine cf_tsD C 8 [0, 1, 2, 3, 4, 5, 6, 7] dX6_count_1 (by decide) (by decide +kernel) (List.forall_mem_cons.mpr ⟨lv_neT h1_0 rfl, (List.forall_mem_cons.mpr ⟨lv_neT h1_1 rfl, (List.forall_mem_cons.mpr ⟨lv_neT h1_2 rfl, (List.forall_mem_cons.mpr ⟨lv_neT h1_3 rfl, (List.forall_mem_cons.mpr ⟨lv_neT h1_4 rfl, (List.forall_mem_cons.mpr ⟨lv_neT h1_5 rfl, (List.forall_mem_cons.mpr ⟨lv_neT h1_6 rfl, (List.forall_mem_cons.mpr ⟨lv_neT h1_7 rfl, (fun _ h => absurd h List.not_mem_nil)⟩)⟩)⟩)⟩)⟩)⟩)⟩)⟩) (tgt := 112) (by decide) ?_
  refine cf_aload_n C dX6_count_112 rfl 0 rfl ?_
  refine cf_iconst C dX6_count_113 (v := 1) rfl ?_
  refine cf_callVi C [.int 1] [] okC_0.1 (ocell_6 okC_0.2.1) rfl q316 q0 (c_X6_wrong (vL E) (vG E) 1 _ _  hm) q314 q317 q65 md_X6_wrong (Nat.le_of_ble_eq_true rfl) (Nat.le_of_ble_eq_true rfl) rfl rfl (Nat.le_of_ble_eq_true rfl) dX6_count_114 (fun v4 S3 hm => ?_)
  exact hR _ _ _ _ dX6_count_117 hm

def E_X6_told (x1 : Int32) (S : St) (Q : Int32 → St → Prop) : Prop := E_X6_within x1 1 6 S (fun v2 S1 => if v2 = 0 then (E_X6_wrong 1 S1 (fun v4 S3 => Q v4 S3)) else (vp_in x1 7 ∧ (Q (S1.2 0 7 x1.toNatClampNeg) S1)))
set_option maxRecDepth 20000 in
theorem c_X6_told (l : Launch) (G : GX) (x1 : Int32) (S : St) (Q : Int32 → St → Prop)  (hm : E_X6_told x1 S Q) : CTi l yX6_told (Cond.code yX6_told cX6_told 2 (some .int) :: AW) { frames := 1, cells := 0, slots := 0, locals := 22 } G enC [.ref (adr G 0 0), .int x1] S Q := by
  refine ct_start_i (by decide) enC_nd (Nat.le_of_ble_eq_true rfl) (fun E hG hl C hR => ?_)
  subst hG
  subst hl
  show CF E S 0 [(0, .ref (adr (vG E) 0 0)), (1, .int x1)] []
  unfold E_X6_told at hm
  refine cf_iload_n C dX6_told_0 rfl 1 rfl ?_
  refine cf_iconst C dX6_told_1 (v := 1) rfl ?_
  refine cf_bipush C dX6_told_2 (v := 6) rfl ?_
  refine cf_callSi C [.int x1, .int 1, .int 6] [] q312 (c_X6_within (vL E) (vG E) x1 1 6 _ _  hm) q311 q313 q65 md_X6_within (Nat.le_of_ble_eq_true rfl) (Nat.le_of_ble_eq_true rfl) rfl rfl (Nat.le_of_ble_eq_true rfl) dX6_told_4 (fun v2 S1 hm => ?_)
  refine cf_if_eq C (tgt := 19) dX6_told_7 (by decide) hm (fun hm => ?_) (fun hm => ?_)
  · refine cf_aload_n C dX6_told_19 rfl 0 rfl ?_
    refine cf_iconst C dX6_told_20 (v := 1) rfl ?_
    refine cf_callVi C [.int 1] [] okC_0.1 (ocell_6 okC_0.2.1) rfl q316 q0 (c_X6_wrong (vL E) (vG E) 1 _ _  hm) q314 q317 q65 md_X6_wrong (Nat.le_of_ble_eq_true rfl) (Nat.le_of_ble_eq_true rfl) rfl rfl (Nat.le_of_ble_eq_true rfl) dX6_told_21 (fun v4 S3 hm => ?_)
    exact hR _ _ _ _ dX6_told_24 hm
  · refine cf_aload_n C dX6_told_10 rfl 0 rfl ?_
    refine gf_6_7 C inX6 okC_0 q283 dX6_told_11 ?_
    refine cf_iload_n C dX6_told_14 rfl 1 rfl ?_
    refine cf_iald C (okA_of 7 okC_0 rfl (by decide) (by decide) (by decide)) dX6_told_15 hm (fun hm => ?_)
    refine cf_goto C (tgt := 24) dX6_told_16 (by decide) ?_
    exact hR _ _ _ _ dX6_told_24 hm
