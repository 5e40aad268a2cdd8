def E_X6_within (x0 : Int32) (x1 : Int32) (x2 : Int32) (S : St) (Q : Int32 → St → Prop) : Prop := if x0 < x1 then (Q 0 S) else (if x2 < x0 then (Q 0 S) else (Q 1 S))
set_option maxRecDepth 20000 in
theorem c_X6_within (l : Launch) (G : GX) (x0 : Int32) (x1 : Int32) (x2 : Int32) (S : St) (Q : Int32 → St → Prop)  (hm : E_X6_within x0 x1 x2 S Q) : CTi l yX6_within (Cond.code yX6_within cX6_within 3 (some .boolean) :: AW) { frames := 0, cells := 0, slots := 0, locals := 0 } G enC [.int x0, .int x1, .int x2] S Q := by
  refine ct_start_z (by decide) enC_nd (Nat.le_of_ble_eq_true rfl) (fun E hG hl C hR => ?_)
  subst hG
  subst hl
  show CF E S 0 [(0, .int x0), (1, .int x1), (2, .int x2)] []
  unfold E_X6_within at hm
  refine cf_iload_n C dX6_within_0 rfl 0 rfl ?_
  refine cf_iload_n C dX6_within_1 rfl 1 rfl ?_
  refine cf_icmp_lt C (tgt := 14) dX6_within_2 (by decide) hm (fun hm => ?_) (fun hm => ?_)
  · refine cf_iconst C dX6_within_14 (v := 0) rfl ?_
    exact hR _ _ _ _ dX6_within_15 (Or.inl rfl) hm
  · refine cf_iload_n C dX6_within_5 rfl 0 rfl ?_
    refine cf_iload_n C dX6_within_6 rfl 2 rfl ?_
    refine cf_icmp_gt C (tgt := 14) dX6_within_7 (by decide) hm (fun hm => ?_) (fun hm => ?_)
    · refine cf_iconst C dX6_within_14 (v := 0) rfl ?_
      exact hR _ _ _ _ dX6_within_15 (Or.inl rfl) hm
    · refine cf_iconst C dX6_within_10 (v := 1) rfl ?_
      refine cf_goto C (tgt := 15) dX6_within_11 (by decide) ?_
      exact hR _ _ _ _ dX6_within_15 (Or.inr rfl) hm

def E_X6_isKm (x0 : Int32) (S : St) (Q : Int32 → St → Prop) : Prop := E_X6_within x0 0 69 S (fun v2 S1 => (v2 = 0 ∨ v2 = 1) ∧ (Q v2 S1))
set_option maxRecDepth 20000 in
theorem c_X6_isKm (l : Launch) (G : GX) (x0 : Int32) (S : St) (Q : Int32 → St → Prop)  (hm : E_X6_isKm x0 S Q) : CTi l yX6_isKm (Cond.code yX6_isKm cX6_isKm 1 (some .boolean) :: AW) { frames := 1, cells := 0, slots := 0, locals := 22 } G enC [.int x0] S Q := by
  refine ct_start_z (by decide) enC_nd (Nat.le_of_ble_eq_true rfl) (fun E hG hl C hR => ?_)
  subst hG
  subst hl
  show CF E S 0 [(0, .int x0)] []
  unfold E_X6_isKm at hm
  refine cf_iload_n C dX6_isKm_0 rfl 0 rfl ?_
  refine cf_iconst C dX6_isKm_1 (v := 0) rfl ?_
  refine cf_bipush C dX6_isKm_2 (v := 69) rfl ?_
  refine cf_callSi C [.int x0, .int 0, .int 69] [] q312 (c_X6_within (vL E) (vG E) x0 0 69 _ _  hm) q311 q313 q65 md_X6_within (Nat.le_of_ble_eq_true rfl) (Nat.le_of_ble_eq_true rfl) rfl rfl (Nat.le_of_ble_eq_true rfl) dX6_isKm_4 (fun v2 S1 hm => ?_)
  exact hR _ _ _ _ dX6_isKm_7 hm.1 hm.2

def E_X6_wrong (x1 : Int32) (S : St) (Q : Int32 → St → Prop) : Prop := vp_in x1 7 ∧ (vp_in x1 7 ∧ (nmS (stR S 0 7 (upd (S.2 0 7) x1.toNatClampNeg ((S.2 0 7 x1.toNatClampNeg) + 1))) (fun S1 => Q ((-1000000000) - x1) S1)))
set_option maxRecDepth 20000 in
theorem c_X6_wrong (l : Launch) (G : GX) (x1 : Int32) (S : St) (Q : Int32 → St → Prop)  (hm : E_X6_wrong x1 S Q) : CTi l yX6_wrong (Cond.code yX6_wrong cX6_wrong 2 (some .int) :: AW) { frames := 0, cells := 0, slots := 0, locals := 0 } G enC [.ref (adr G 0 0), .int x1] S Q := by
  refine ct_start_i (by decide) enC_nd (Nat.le_of_ble_eq_true rfl) (fun E hG hl C hR => ?_)
  subst hG
  subst hl
  show CF E S 0 [(0, .ref (adr (vG E) 0 0)), (1, .int x1)] []
  unfold E_X6_wrong at hm
  refine cf_aload_n C dX6_wrong_0 rfl 0 rfl ?_
  refine gf_6_7 C inX6 okC_0 q283 dX6_wrong_1 ?_
  refine cf_iload_n C dX6_wrong_4 rfl 1 rfl ?_
  refine cf_dup2 C dX6_wrong_5 rfl rfl ?_
  refine cf_iald C (okA_of 7 okC_0 rfl (by decide) (by decide) (by decide)) dX6_wrong_6 hm (fun hm => ?_)
  refine cf_iconst C dX6_wrong_7 (v := 1) rfl ?_
  refine cf_iadd C dX6_wrong_8 ?_
  refine cf_iast C (okA_of 7 okC_0 rfl (by decide) (by decide) (by decide)) dX6_wrong_9 hm (fun hm => ?_)
  refine cf_nmS hm (fun S1 hm => ?_)
  refine cf_ldcw C dX6_wrong_10 q318 ?_
  refine cf_iload_n C dX6_wrong_13 rfl 1 rfl ?_
  refine cf_isub C dX6_wrong_14 ?_
  exact hR _ _ _ _ dX6_wrong_15 hm

def E_X4_bring (o : Nat) (x1 : Int32) (x2 : Int32) (x3 : Int32) (S : St) (Q : Int32 → St → Prop) : Prop := if (S.1 o 2) < 9 then (nmI (S.1 o 2) (fun v1 => vp_in v1 9 ∧ (nmS (stR S o 5 (upd (S.2 o 5) v1.toNatClampNeg (x1 / 10))) (fun S2 => vp_in v1 9 ∧ (nmS (stR S2 o 6 (upd (S2.2 o 6) v1.toNatClampNeg (x1 - x1 / 10 * 10))) (fun S3 => vp_in v1 9 ∧ (nmS (stR S3 o 7 (upd (S3.2 o 7) v1.toNatClampNeg x2)) (fun S4 => vp_in v1 9 ∧ (nmS (stR S4 o 8 (upd (S4.2 o 8) v1.toNatClampNeg 0)) (fun S5 => vp_in v1 9 ∧ (nmS (stR S5 o 9 (upd (S5.2 o 9) v1.toNatClampNeg x3)) (fun S6 => nmS (stI S6 o 2 ((S6.1 o 2) + 1)) (fun S7 => Q v1 S7))))))))))))) else (Q (-1) S)
set_option maxRecDepth 20000 in
theorem c_X4_bring (l : Launch) (G : GX) (o : Nat) (x1 : Int32) (x2 : Int32) (x3 : Int32) (S : St) (Q : Int32 → St → Prop) (ho : okO enC o 4) (hm : E_X4_bring o x1 x2 x3 S Q) : CTi l yX4_bring (Cond.code yX4_bring cX4_bring 5 (some .int) :: AW) { frames := 0, cells := 0, slots := 0, locals := 0 } G enC [.ref (adr G o 0), .int x1, .int x2, .int x3] S Q := by
  refine ct_start_i (by decide) enC_nd (Nat.le_of_ble_eq_true rfl) (fun E hG hl C hR => ?_)
  subst hG
  subst hl
  show CF E S 0 [(0, .ref (adr (vG E) o 0)), (1, .int x1), (2, .int x2), (3, .int x3)] []
  unfold E_X4_bring at hm
  refine cf_aload_n C dX4_bring_0 rfl 0 rfl ?_
  refine gf_4_2 C inX4 ho q121 dX4_bring_1 ?_
  refine cf_bipush C dX4_bring_4 (v := 9) rfl ?_
  refine cf_icmp_lt C (tgt := 11) dX4_bring_6 (by decide) hm (fun hm => ?_) (fun hm => ?_)
  · refine cf_aload_n C dX4_bring_11 rfl 0 rfl ?_
    refine gf_4_2 C inX4 ho q121 dX4_bring_12 ?_
    refine cf_nmI hm (fun v1 hm => ?_)
    refine cf_istore C (L1 := [(4, .int v1), (0, .ref (adr (vG E) o 0)), (1, .int x1), (2, .int x2), (3, .int x3)]) dX4_bring_15 (by decide) rfl ?_
    refine cf_aload_n C dX4_bring_17 rfl 1 rfl ?_
    refine gf_4_5 C inX4 ho q128 dX4_bring_18 ?_
    refine cf_iload C dX4_bring_21 0 rfl ?_
    refine cf_iload_n C dX4_bring_23 rfl 2 rfl ?_
    refine cf_bipush C dX4_bring_24 (v := 10) rfl ?_
    refine cf_idivC C dX4_bring_26 (by decide) ?_
    refine cf_iast C (okA_of 5 ho rfl (by decide) (by decide) (by decide)) dX4_bring_27 hm (fun hm => ?_)
    refine cf_nmS hm (fun S2 hm => ?_)
    refine cf_aload_n C dX4_bring_28 rfl 1 rfl ?_
    refine gf_4_6 C inX4 ho q131 dX4_bring_29 ?_
    refine cf_iload C dX4_bring_32 0 rfl ?_
    refine cf_iload_n C dX4_bring_34 rfl 2 rfl ?_
    refine cf_bipush C dX4_bring_35 (v := 10) rfl ?_
    refine cf_iremC C dX4_bring_37 (by decide) ?_
    refine cf_iast C (okA_of 6 ho rfl (by decide) (by decide) (by decide)) dX4_bring_38 hm (fun hm => ?_)
    refine cf_nmS hm (fun S3 hm => ?_)
    refine cf_aload_n C dX4_bring_39 rfl 1 rfl ?_
    refine gf_4_7 C inX4 ho q134 dX4_bring_40 ?_
    refine cf_iload C dX4_bring_43 0 rfl ?_
    refine cf_iload_n C dX4_bring_45 rfl 3 rfl ?_
    refine cf_iast C (okA_of 7 ho rfl (by decide) (by decide) (by decide)) dX4_bring_46 hm (fun hm => ?_)
    refine cf_nmS hm (fun S4 hm => ?_)
    refine cf_aload_n C dX4_bring_47 rfl 1 rfl ?_
    refine gf_4_8 C inX4 ho q137 dX4_bring_48 ?_
    refine cf_iload C dX4_bring_51 0 rfl ?_
    refine cf_iconst C dX4_bring_53 (v := 0) rfl ?_
    refine cf_iast C (okA_of 8 ho rfl (by decide) (by decide) (by decide)) dX4_bring_54 hm (fun hm => ?_)
    refine cf_nmS hm (fun S5 hm => ?_)
    refine cf_aload_n C dX4_bring_55 rfl 1 rfl ?_
    refine gf_4_9 C inX4 ho q139 dX4_bring_56 ?_
    refine cf_iload C dX4_bring_59 0 rfl ?_
    refine cf_iload_n C dX4_bring_61 rfl 4 rfl ?_
    refine cf_iast C (okA_of 9 ho rfl (by decide) (by decide) (by decide)) dX4_bring_62 hm (fun hm => ?_)
    refine cf_nmS hm (fun S6 hm => ?_)
    refine cf_aload_n C dX4_bring_63 rfl 1 rfl ?_
    refine cf_dup C dX4_bring_64 rfl ?_
    refine gf_4_2 C inX4 ho q121 dX4_bring_65 ?_
    refine cf_iconst C dX4_bring_68 (v := 1) rfl ?_
    refine cf_iadd C dX4_bring_69 ?_
    refine pf_4_2 C inX4 ho q121 dX4_bring_70 ?_
    refine cf_nmS hm (fun S7 hm => ?_)
    refine cf_iload C dX4_bring_73 0 rfl ?_
    exact hR _ _ _ _ dX4_bring_75 hm
  · refine cf_iconst C dX4_bring_9 (v := (-1)) rfl ?_
    exact hR _ _ _ _ dX4_bring_10 hm

def E_X6_dish (x1 : Int32) (x2 : Int32) (x3 : Int32) (S : St) (Q : Int32 → St → Prop) : Prop := E_X6_isKm x1 S (fun v2 S1 => if v2 = 0 then (E_X6_wrong 1 S1 (fun v4 S3 => Q v4 S3)) else (E_X6_within x2 0 99 S1 (fun v6 S5 => if v6 = 0 then (E_X6_wrong 1 S5 (fun v8 S7 => Q v8 S7)) else (E_X6_within x3 0 9 S5 (fun v10 S9 => if v10 = 0 then (E_X6_wrong 1 S9 (fun v16 S15 => Q v16 S15)) else (if (S9.1 3 2) < 9 then (E_X4_bring 3 x1 x2 x3 S9 (fun v12 S11 => Q v12 S11)) else (E_X6_wrong 4 S9 (fun v14 S13 => Q v14 S13))))))))
set_option maxRecDepth 20000 in
theorem c_X6_dish (l : Launch) (G : GX) (x1 : Int32) (x2 : Int32) (x3 : Int32) (S : St) (Q : Int32 → St → Prop)  (hm : E_X6_dish x1 x2 x3 S Q) : CTi l yX6_dish (Cond.code yX6_dish cX6_dish 4 (some .int) :: AW) { frames := 2, cells := 0, slots := 0, locals := 42 } G enC [.ref (adr G 0 0), .int x1, .int x2, .int x3] S Q := by
  refine ct_start_i (by decide) enC_nd (Nat.le_of_ble_eq_true rfl) (fun E hG hl C hR => ?_)
  subst hG
  subst hl
  show CF E S 0 [(0, .ref (adr (vG E) 0 0)), (1, .int x1), (2, .int x2), (3, .int x3)] []
  unfold E_X6_dish at hm
  refine cf_iload_n C dX6_dish_0 rfl 1 rfl ?_
  refine cf_callSi C [.int x1] [] q309 (c_X6_isKm (vL E) (vG E) x1 _ _  hm) q308 q310 q65 md_X6_isKm (Nat.le_of_ble_eq_true rfl) (Nat.le_of_ble_eq_true rfl) rfl rfl (Nat.le_of_ble_eq_true rfl) dX6_dish_1 (fun v2 S1 hm => ?_)
  refine cf_if_eq C (tgt := 27) dX6_dish_4 (by decide) hm (fun hm => ?_) (fun hm => ?_)
  · refine cf_aload_n C dX6_dish_27 rfl 0 rfl ?_
    refine cf_iconst C dX6_dish_28 (v := 1) rfl ?_
    refine cf_callVi C [.int 1] [] okC_0.1 (ocell_6 okC_0.2.1) rfl q316 q0 (c_X6_wrong (vL E) (vG E) 1 _ _  hm) q314 q317 q65 md_X6_wrong (Nat.le_of_ble_eq_true rfl) (Nat.le_of_ble_eq_true rfl) rfl rfl (Nat.le_of_ble_eq_true rfl) dX6_dish_29 (fun v4 S3 hm => ?_)
    exact hR _ _ _ _ dX6_dish_32 hm
  · refine cf_iload_n C dX6_dish_7 rfl 2 rfl ?_
    refine cf_iconst C dX6_dish_8 (v := 0) rfl ?_
    refine cf_bipush C dX6_dish_9 (v := 99) rfl ?_
    refine cf_callSi C [.int x2, .int 0, .int 99] [] q312 (c_X6_within (vL E) (vG E) x2 0 99 _ _  hm) q311 q313 q65 md_X6_within (Nat.le_of_ble_eq_true rfl) (Nat.le_of_ble_eq_true rfl) rfl rfl (Nat.le_of_ble_eq_true rfl) dX6_dish_11 (fun v6 S5 hm => ?_)
    refine cf_if_eq C (tgt := 27) dX6_dish_14 (by decide) hm (fun hm => ?_) (fun hm => ?_)
    · refine cf_aload_n C dX6_dish_27 rfl 0 rfl ?_
      refine cf_iconst C dX6_dish_28 (v := 1) rfl ?_
      refine cf_callVi C [.int 1] [] okC_0.1 (ocell_6 okC_0.2.1) rfl q316 q0 (c_X6_wrong (vL E) (vG E) 1 _ _  hm) q314 q317 q65 md_X6_wrong (Nat.le_of_ble_eq_true rfl) (Nat.le_of_ble_eq_true rfl) rfl rfl (Nat.le_of_ble_eq_true rfl) dX6_dish_29 (fun v8 S7 hm => ?_)
      exact hR _ _ _ _ dX6_dish_32 hm
    · refine cf_iload_n C dX6_dish_17 rfl 3 rfl ?_
      refine cf_iconst C dX6_dish_18 (v := 0) rfl ?_
      refine cf_bipush C dX6_dish_19 (v := 9) rfl ?_
      refine cf_callSi C [.int x3, .int 0, .int 9] [] q312 (c_X6_within (vL E) (vG E) x3 0 9 _ _  hm) q311 q313 q65 md_X6_within (Nat.le_of_ble_eq_true rfl) (Nat.le_of_ble_eq_true rfl) rfl rfl (Nat.le_of_ble_eq_true rfl) dX6_dish_21 (fun v10 S9 hm => ?_)
      refine cf_if_ne C (tgt := 33) dX6_dish_24 (by decide) hm (fun hm => ?_) (fun hm => ?_)
      · refine cf_aload_n C dX6_dish_33 rfl 0 rfl ?_
        refine gf_6_2 C inX6 okC_0 q278 dX6_dish_34 ?_
        refine gf_4_2 C inX4 okC_3 q122 dX6_dish_37 ?_
        refine cf_bipush C dX6_dish_40 (v := 9) rfl ?_
        refine cf_icmp_lt C (tgt := 51) dX6_dish_42 (by decide) hm (fun hm => ?_) (fun hm => ?_)
        · refine cf_aload_n C dX6_dish_51 rfl 0 rfl ?_
          refine gf_6_2 C inX6 okC_0 q278 dX6_dish_52 ?_
          refine cf_iload_n C dX6_dish_55 rfl 1 rfl ?_
          refine cf_iload_n C dX6_dish_56 rfl 2 rfl ?_
          refine cf_iload_n C dX6_dish_57 rfl 3 rfl ?_
          refine cf_callVi C [.int x1, .int x2, .int x3] [] okC_3.1 (ocell_4 okC_3.2.1) rfl q320 q321 (c_X4_bring (vL E) (vG E) 3 x1 x2 x3 _ _ okC_3 hm) q319 q322 q68 md_X4_bring (Nat.le_of_ble_eq_true rfl) (Nat.le_of_ble_eq_true rfl) rfl rfl (Nat.le_of_ble_eq_true rfl) dX6_dish_58 (fun v12 S11 hm => ?_)
          exact hR _ _ _ _ dX6_dish_61 hm
        · refine cf_aload_n C dX6_dish_45 rfl 0 rfl ?_
          refine cf_iconst C dX6_dish_46 (v := 4) rfl ?_
          refine cf_callVi C [.int 4] [] okC_0.1 (ocell_6 okC_0.2.1) rfl q316 q0 (c_X6_wrong (vL E) (vG E) 4 _ _  hm) q314 q317 q65 md_X6_wrong (Nat.le_of_ble_eq_true rfl) (Nat.le_of_ble_eq_true rfl) rfl rfl (Nat.le_of_ble_eq_true rfl) dX6_dish_47 (fun v14 S13 hm => ?_)
          exact hR _ _ _ _ dX6_dish_50 hm
      · refine cf_aload_n C dX6_dish_27 rfl 0 rfl ?_
        refine cf_iconst C dX6_dish_28 (v := 1) rfl ?_
        refine cf_callVi C [.int 1] [] okC_0.1 (ocell_6 okC_0.2.1) rfl q316 q0 (c_X6_wrong (vL E) (vG E) 1 _ _  hm) q314 q317 q65 md_X6_wrong (Nat.le_of_ble_eq_true rfl) (Nat.le_of_ble_eq_true rfl) rfl rfl (Nat.le_of_ble_eq_true rfl) dX6_dish_29 (fun v16 S15 hm => ?_)
        exact hR _ _ _ _ dX6_dish_32 hm

def E_X4_has (o : Nat) (x1 : Int32) (S : St) (Q : Int32 → St → Prop) : Prop := if x1 < 0 then (Q 0 S) else (if (S.1 o 2) ≤ x1 then (Q 0 S) else (Q 1 S))
set_option maxRecDepth 20000 in
theorem c_X4_has (l : Launch) (G : GX) (o : Nat) (x1 : Int32) (S : St) (Q : Int32 → St → Prop) (ho : okO enC o 4) (hm : E_X4_has o x1 S Q) : CTi l yX4_has (Cond.code yX4_has cX4_has 2 (some .boolean) :: AW) { frames := 0, cells := 0, slots := 0, locals := 0 } G enC [.ref (adr G o 0), .int x1] S Q := by
  refine ct_start_z (by decide) enC_nd (Nat.le_of_ble_eq_true rfl) (fun E hG hl C hR => ?_)
  subst hG
  subst hl
  show CF E S 0 [(0, .ref (adr (vG E) o 0)), (1, .int x1)] []
  unfold E_X4_has at hm
  refine cf_iload_n C dX4_has_0 rfl 1 rfl ?_
  refine cf_if_lt C (tgt := 16) dX4_has_1 (by decide) hm (fun hm => ?_) (fun hm => ?_)
  · refine cf_iconst C dX4_has_16 (v := 0) rfl ?_
    exact hR _ _ _ _ dX4_has_17 (Or.inl rfl) hm
  · refine cf_iload_n C dX4_has_4 rfl 1 rfl ?_
    refine cf_aload_n C dX4_has_5 rfl 0 rfl ?_
    refine gf_4_2 C inX4 ho q121 dX4_has_6 ?_
    refine cf_icmp_ge C (tgt := 16) dX4_has_9 (by decide) hm (fun hm => ?_) (fun hm => ?_)
    · refine cf_iconst C dX4_has_16 (v := 0) rfl ?_
      exact hR _ _ _ _ dX4_has_17 (Or.inl rfl) hm
    · refine cf_iconst C dX4_has_12 (v := 1) rfl ?_
      refine cf_goto C (tgt := 17) dX4_has_13 (by decide) ?_
      exact hR _ _ _ _ dX4_has_17 (Or.inr rfl) hm

def E_X4_claimOfKind (o : Nat) (x1 : Int32) (S : St) (Q : Int32 → St → Prop) : Prop := vp_in x1 9 ∧ (vp_in x1 9 ∧ (nmI ((S.2 o 8 x1.toNatClampNeg) + ((S.2 o 7 x1.toNatClampNeg) / 10)) (fun v1 => vp_in x1 9 ∧ (if (S.2 o 5 x1.toNatClampNeg) = 1 then (vp_in x1 9 ∧ (Q (v1 + (S.2 o 6 x1.toNatClampNeg)) S)) else (if (S.2 o 5 x1.toNatClampNeg) = 2 then (Q (2 * v1) S) else (if (S.2 o 5 x1.toNatClampNeg) = 3 then (if ((S.1 o 3) - (S.1 o 3) / 7 * 7) = 4 then (vp_in x1 9 ∧ (Q (50 + (S.2 o 6 x1.toNatClampNeg)) S)) else (Q v1 S)) else (if (S.2 o 5 x1.toNatClampNeg) = 4 then (vp_in x1 9 ∧ (vp_in x1 9 ∧ (Q ((v1 + (S.2 o 6 x1.toNatClampNeg)) + ((S.2 o 7 x1.toNatClampNeg) - (S.2 o 7 x1.toNatClampNeg) / 7 * 7)) S))) else (if (S.2 o 5 x1.toNatClampNeg) = 5 then (Q ((2 * v1) + 40) S) else (if (S.2 o 5 x1.toNatClampNeg) = 6 then (vp_in x1 9 ∧ (Q (v1 - (S.2 o 9 x1.toNatClampNeg)) S)) else (Q v1 S))))))))))
set_option maxRecDepth 20000 in
theorem c_X4_claimOfKind (l : Launch) (G : GX) (o : Nat) (x1 : Int32) (S : St) (Q : Int32 → St → Prop) (ho : okO enC o 4) (hm : E_X4_claimOfKind o x1 S Q) : CTi l yX4_claimOfKind (Cond.code yX4_claimOfKind cX4_claimOfKind 3 (some .int) :: AW) { frames := 0, cells := 0, slots := 0, locals := 0 } G enC [.ref (adr G o 0), .int x1] S Q := by
  refine ct_start_i (by decide) enC_nd (Nat.le_of_ble_eq_true rfl) (fun E hG hl C hR => ?_)
  subst hG
  subst hl
  show CF E S 0 [(0, .ref (adr (vG E) o 0)), (1, .int x1)] []
  unfold E_X4_claimOfKind at hm
  refine cf_aload_n C dX4_claimOfKind_0 rfl 0 rfl ?_
  refine gf_4_8 C inX4 ho q137 dX4_claimOfKind_1 ?_
  refine cf_iload_n C dX4_claimOfKind_4 rfl 1 rfl ?_
  refine cf_iald C (okA_of 8 ho rfl (by decide) (by decide) (by decide)) dX4_claimOfKind_5 hm (fun hm => ?_)
  refine cf_aload_n C dX4_claimOfKind_6 rfl 0 rfl ?_
  refine gf_4_7 C inX4 ho q134 dX4_claimOfKind_7 ?_
  refine cf_iload_n C dX4_claimOfKind_10 rfl 1 rfl ?_
  refine cf_iald C (okA_of 7 ho rfl (by decide) (by decide) (by decide)) dX4_claimOfKind_11 hm (fun hm => ?_)
  refine cf_bipush C dX4_claimOfKind_12 (v := 10) rfl ?_
  refine cf_idivC C dX4_claimOfKind_14 (by decide) ?_
  refine cf_iadd C dX4_claimOfKind_15 ?_
  refine cf_nmI hm (fun v1 hm => ?_)
  refine cf_istore_n C (L1 := [(2, .int v1), (0, .ref (adr (vG E) o 0)), (1, .int x1)]) dX4_claimOfKind_16 rfl (by decide) rfl ?_
  refine cf_aload_n C dX4_claimOfKind_17 rfl 1 rfl ?_
  refine gf_4_5 C inX4 ho q128 dX4_claimOfKind_18 ?_
  refine cf_iload_n C dX4_claimOfKind_21 rfl 2 rfl ?_
  refine cf_iald C (okA_of 5 ho rfl (by decide) (by decide) (by decide)) dX4_claimOfKind_22 hm (fun hm => ?_)
  rcases ifc hm with ⟨hx, hm⟩ | ⟨h23_1, hm⟩
  · refine cf_tsIn C 1 dX4_claimOfKind_23 (by rw [hx]; rfl) (by decide) (by decide) (off := 37) (by rfl) (tgt := 60) (by decide) ?_
    refine cf_iload_n C dX4_claimOfKind_60 rfl 0 rfl ?_
    refine cf_aload_n C dX4_claimOfKind_61 rfl 1 rfl ?_
    refine gf_4_6 C inX4 ho q131 dX4_claimOfKind_62 ?_
    refine cf_iload_n C dX4_claimOfKind_65 rfl 2 rfl ?_
    refine cf_iald C (okA_of 6 ho rfl (by decide) (by decide) (by decide)) dX4_claimOfKind_66 hm (fun hm => ?_)
    refine cf_iadd C dX4_claimOfKind_67 ?_
    exact hR _ _ _ _ dX4_claimOfKind_68 hm
  rcases ifc hm with ⟨hx, hm⟩ | ⟨h23_2, hm⟩
  · refine cf_tsIn C 2 dX4_claimOfKind_23 (by rw [hx]; rfl) (by decide) (by decide) (off := 46) (by rfl) (tgt := 69) (by decide) ?_
    refine cf_iconst C dX4_claimOfKind_69 (v := 2) rfl ?_
    refine cf_iload_n C dX4_claimOfKind_70 rfl 0 rfl ?_
    refine cf_imul C dX4_claimOfKind_71 ?_
    exact hR _ _ _ _ dX4_claimOfKind_72 hm
  rcases ifc hm with ⟨hx, hm⟩ | ⟨h23_3, hm⟩
  · refine cf_tsIn C 3 dX4_claimOfKind_23 (by rw [hx]; rfl) (by decide) (by decide) (off := 50) (by rfl) (tgt := 73) (by decide) ?_
    refine cf_aload_n C dX4_claimOfKind_73 rfl 1 rfl ?_
    refine gf_4_3 C inX4 ho q124 dX4_claimOfKind_74 ?_
    refine cf_bipush C dX4_claimOfKind_77 (v := 7) rfl ?_
    refine cf_iremC C dX4_claimOfKind_79 (by decide) ?_
    refine cf_iconst C dX4_claimOfKind_80 (v := 4) rfl ?_
    refine cf_icmp_ne C (tgt := 96) dX4_claimOfKind_81 (by decide) hm (fun hm => ?_) (fun hm => ?_)
    · refine cf_iload_n C dX4_claimOfKind_96 rfl 0 rfl ?_
      exact hR _ _ _ _ dX4_claimOfKind_97 hm
    · refine cf_bipush C dX4_claimOfKind_84 (v := 50) rfl ?_
      refine cf_aload_n C dX4_claimOfKind_86 rfl 1 rfl ?_
      refine gf_4_6 C inX4 ho q131 dX4_claimOfKind_87 ?_
      refine cf_iload_n C dX4_claimOfKind_90 rfl 2 rfl ?_
      refine cf_iald C (okA_of 6 ho rfl (by decide) (by decide) (by decide)) dX4_claimOfKind_91 hm (fun hm => ?_)
      refine cf_iadd C dX4_claimOfKind_92 ?_
      refine cf_goto C (tgt := 97) dX4_claimOfKind_93 (by decide) ?_
      exact hR _ _ _ _ dX4_claimOfKind_97 hm
  rcases ifc hm with ⟨hx, hm⟩ | ⟨h23_4, hm⟩
  · refine cf_tsIn C 4 dX4_claimOfKind_23 (by rw [hx]; rfl) (by decide) (by decide) (off := 75) (by rfl) (tgt := 98) (by decide) ?_
    refine cf_iload_n C dX4_claimOfKind_98 rfl 0 rfl ?_
    refine cf_aload_n C dX4_claimOfKind_99 rfl 1 rfl ?_
    refine gf_4_6 C inX4 ho q131 dX4_claimOfKind_100 ?_
    refine cf_iload_n C dX4_claimOfKind_103 rfl 2 rfl ?_
    refine cf_iald C (okA_of 6 ho rfl (by decide) (by decide) (by decide)) dX4_claimOfKind_104 hm (fun hm => ?_)
    refine cf_iadd C dX4_claimOfKind_105 ?_
    refine cf_aload_n C dX4_claimOfKind_106 rfl 1 rfl ?_
    refine gf_4_7 C inX4 ho q134 dX4_claimOfKind_107 ?_
    refine cf_iload_n C dX4_claimOfKind_110 rfl 2 rfl ?_
    refine cf_iald C (okA_of 7 ho rfl (by decide) (by decide) (by decide)) dX4_claimOfKind_111 hm (fun hm => ?_)
    refine cf_bipush C dX4_claimOfKind_112 (v := 7) rfl ?_
    refine cf_iremC C dX4_claimOfKind_114 (by decide) ?_
    refine cf_iadd C dX4_claimOfKind_115 ?_
    exact hR _ _ _ _ dX4_claimOfKind_116 hm
  rcases ifc hm with ⟨hx, hm⟩ | ⟨h23_5, hm⟩
  · refine cf_tsIn C 5 dX4_claimOfKind_23 (by rw [hx]; rfl) (by decide) (by decide) (off := 94) (by rfl) (tgt := 117) (by decide) ?_
    refine cf_iconst C dX4_claimOfKind_117 (v := 2) rfl ?_
    refine cf_iload_n C dX4_claimOfKind_118 rfl 0 rfl ?_
    refine cf_imul C dX4_claimOfKind_119 ?_
    refine cf_bipush C dX4_claimOfKind_120 (v := 40) rfl ?_
    refine cf_iadd C dX4_claimOfKind_122 ?_
    exact hR _ _ _ _ dX4_claimOfKind_123 hm
  rcases ifc hm with ⟨hx, hm⟩ | ⟨h23_6, hm⟩
  · refine cf_tsIn C 6 dX4_claimOfKind_23 (by rw [hx]; rfl) (by decide) (by decide) (off := 101) (by rfl) (tgt := 124) (by decide) ?_
    refine cf_iload_n C dX4_claimOfKind_124 rfl 0 rfl ?_
    refine cf_aload_n C dX4_claimOfKind_125 rfl 1 rfl ?_
    refine gf_4_9 C inX4 ho q139 dX4_claimOfKind_126 ?_
    refine cf_iload_n C dX4_claimOfKind_129 rfl 2 rfl ?_
    refine cf_iald C (okA_of 9 ho rfl (by decide) (by decide) (by decide)) dX4_claimOfKind_130 hm (fun hm => ?_)
    refine cf_isub C dX4_claimOfKind_131 ?_
    exact hR _ _ _ _ dX4_claimOfKind_132 hm
  refine cf_tsD C 6 [1, 2, 3, 4, 5, 6] dX4_claimOfKind_23 (by decide) (by decide +kernel) (List.forall_mem_cons.mpr ⟨lv_neT h23_1 rfl, (List.forall_mem_cons.mpr ⟨lv_neT h23_2 rfl, (List.forall_mem_cons.mpr ⟨lv_neT h23_3 rfl, (List.forall_mem_cons.mpr ⟨lv_neT h23_4 rfl, (List.forall_mem_cons.mpr ⟨lv_neT h23_5 rfl, (List.forall_mem_cons.mpr ⟨lv_neT h23_6 rfl, (fun _ h => absurd h List.not_mem_nil)⟩)⟩)⟩)⟩)⟩)⟩) (tgt := 133) (by decide) ?_
  refine cf_iload_n C dX4_claimOfKind_133 rfl 0 rfl ?_
  exact hR _ _ _ _ dX4_claimOfKind_134 hm

def E_X1_withoutText (o : Nat) (x1 : Int32) (x2 : Int32) (S : St) (Q : Int32 → St → Prop) : Prop := if (S.1 o 1) = 0 then (Q x1 S) else (if 0 ≤ (lg_cmp (if 0 < ((x1.toInt64) - (x2.toInt64)) then ((x1.toInt64) - (x2.toInt64)) else -((x1.toInt64) - (x2.toInt64))) 2) then (Q 0 S) else (Q 1 S))
set_option maxRecDepth 20000 in
theorem c_X1_withoutText (l : Launch) (G : GX) (o : Nat) (x1 : Int32) (x2 : Int32) (S : St) (Q : Int32 → St → Prop) (ho : okO enC o 1) (hm : E_X1_withoutText o x1 x2 S Q) : CTi l yX1_withoutText (Cond.code yX1_withoutText cX1_withoutText 3 (some .int) :: AW) { frames := 1, cells := 0, slots := 0, locals := 21 } G enC [.ref (adr G o 0), .int x1, .int x2] S Q := by
  refine ct_start_i (by decide) enC_nd (Nat.le_of_ble_eq_true rfl) (fun E hG hl C hR => ?_)
  subst hG
  subst hl
  show CF E S 0 [(0, .ref (adr (vG E) o 0)), (1, .int x1), (2, .int x2)] []
  unfold E_X1_withoutText at hm
  refine cf_aload_n C dX1_withoutText_0 rfl 0 rfl ?_
  refine gf_1_1 C inX1 ho q97 dX1_withoutText_1 ?_
  refine cf_if_eq C (tgt := 30) dX1_withoutText_4 (by decide) hm (fun hm => ?_) (fun hm => ?_)
  · refine cf_iload_n C dX1_withoutText_30 rfl 1 rfl ?_
    exact hR _ _ _ _ dX1_withoutText_31 hm
  · refine cf_iload_n C dX1_withoutText_7 rfl 1 rfl ?_
    refine cf_i2l C dX1_withoutText_8 ?_
    refine cf_iload_n C dX1_withoutText_9 rfl 2 rfl ?_
    refine cf_i2l C dX1_withoutText_10 ?_
    refine cf_lsub C dX1_withoutText_11 ?_
    refine cf_mabsl C q347 q348 q73 q349 (Nat.le_of_ble_eq_true rfl) (Nat.le_of_ble_eq_true rfl) (Nat.le_of_ble_eq_true rfl) dX1_withoutText_12 ?_
    refine cf_ldc2 C dX1_withoutText_15 q350 ?_
    refine cf_lcmp C dX1_withoutText_18 ?_
    refine cf_if_ge C (tgt := 26) dX1_withoutText_19 (by decide) hm (fun hm => ?_) (fun hm => ?_)
    · refine cf_iconst C dX1_withoutText_26 (v := 0) rfl ?_
      refine cf_goto C (tgt := 31) dX1_withoutText_27 (by decide) ?_
      exact hR _ _ _ _ dX1_withoutText_31 hm
    · refine cf_iconst C dX1_withoutText_22 (v := 1) rfl ?_
      refine cf_goto C (tgt := 31) dX1_withoutText_23 (by decide) ?_
      exact hR _ _ _ _ dX1_withoutText_31 hm

def E_X1_joined (x0 : Int32) (x1 : Int32) (x2 : Int32) (S : St) (Q : Int32 → St → Prop) : Prop := if x1 = 37 then (if x2 = 0 then (Q 0 S) else ((¬ x2 = 0) ∧ (Q (x0 - x0 / x2 * x2) S))) else (if x1 = 38 then (if x0 = 0 then (Q 0 S) else (if x2 = 0 then (Q 0 S) else (Q 1 S))) else (if x1 = 42 then (Q (x0 * x2) S) else (if x1 = 43 then (Q (x0 + x2) S) else (if x1 = 45 then (Q (x0 - x2) S) else (if x1 = 47 then (if x2 = 0 then (Q 0 S) else ((¬ x2 = 0) ∧ (Q (x0 / x2) S))) else (if x1 = 60 then (if x2 ≤ x0 then (Q 0 S) else (Q 1 S)) else (if x1 = 61 then (if x0 = x2 then (Q 1 S) else (Q 0 S)) else (if x1 = 62 then (if x0 ≤ x2 then (Q 0 S) else (Q 1 S)) else (if x1 = 124 then (if x0 = 0 then (if x2 = 0 then (Q 0 S) else (Q 1 S)) else (Q 1 S)) else (Q 0 S))))))))))
set_option maxRecDepth 20000 in
theorem c_X1_joined (l : Launch) (G : GX) (x0 : Int32) (x1 : Int32) (x2 : Int32) (S : St) (Q : Int32 → St → Prop)  (hm : E_X1_joined x0 x1 x2 S Q) : CTi l yX1_joined (Cond.code yX1_joined cX1_joined 3 (some .int) :: AW) { frames := 0, cells := 0, slots := 0, locals := 0 } G enC [.int x0, .int x1, .int x2] S Q := by
  refine ct_start_i (by decide) enC_nd (Nat.le_of_ble_eq_true rfl) (fun E hG hl C hR => ?_)
  subst hG
  subst hl
  show CF E S 0 [(0, .int x0), (1, .int x1), (2, .int x2)] []
  unfold E_X1_joined at hm
  refine cf_iload_n C dX1_joined_0 rfl 1 rfl ?_
  rcases ifc hm with ⟨hx, hm⟩ | ⟨h1_37, hm⟩
  · refine cf_lk C dX1_joined_1 (by decide +kernel) (off := 176) (by rw [hx]; rfl) (tgt := 177) (by decide) ?_
    refine cf_iload_n C dX1_joined_177 rfl 2 rfl ?_
    refine cf_if_ne C (tgt := 185) dX1_joined_178 (by decide) hm (fun hm => ?_) (fun hm => ?_)
    · refine cf_iload_n C dX1_joined_185 rfl 0 rfl ?_
      refine cf_iload_n C dX1_joined_186 rfl 2 rfl ?_
      refine cf_irem C dX1_joined_187 hm (fun hm => ?_)
      exact hR _ _ _ _ dX1_joined_188 hm
    · refine cf_iconst C dX1_joined_181 (v := 0) rfl ?_
      refine cf_goto C (tgt := 188) dX1_joined_182 (by decide) ?_
      exact hR _ _ _ _ dX1_joined_188 hm
  rcases ifc hm with ⟨hx, hm⟩ | ⟨h1_38, hm⟩
  · refine cf_lk C dX1_joined_1 (by decide +kernel) (off := 105) (by rw [hx]; rfl) (tgt := 106) (by decide) ?_
    refine cf_iload_n C dX1_joined_106 rfl 0 rfl ?_
    refine cf_if_eq C (tgt := 118) dX1_joined_107 (by decide) hm (fun hm => ?_) (fun hm => ?_)
    · refine cf_iconst C dX1_joined_118 (v := 0) rfl ?_
      exact hR _ _ _ _ dX1_joined_119 hm
    · refine cf_iload_n C dX1_joined_110 rfl 2 rfl ?_
      refine cf_if_eq C (tgt := 118) dX1_joined_111 (by decide) hm (fun hm => ?_) (fun hm => ?_)
      · refine cf_iconst C dX1_joined_118 (v := 0) rfl ?_
        exact hR _ _ _ _ dX1_joined_119 hm
      · refine cf_iconst C dX1_joined_114 (v := 1) rfl ?_
        refine cf_goto C (tgt := 119) dX1_joined_115 (by decide) ?_
        exact hR _ _ _ _ dX1_joined_119 hm
  rcases ifc hm with ⟨hx, hm⟩ | ⟨h1_42, hm⟩
  · refine cf_lk C dX1_joined_1 (by decide +kernel) (off := 160) (by rw [hx]; rfl) (tgt := 161) (by decide) ?_
    refine cf_iload_n C dX1_joined_161 rfl 0 rfl ?_
    refine cf_iload_n C dX1_joined_162 rfl 2 rfl ?_
    refine cf_imul C dX1_joined_163 ?_
    exact hR _ _ _ _ dX1_joined_164 hm
  rcases ifc hm with ⟨hx, hm⟩ | ⟨h1_43, hm⟩
  · refine cf_lk C dX1_joined_1 (by decide +kernel) (off := 152) (by rw [hx]; rfl) (tgt := 153) (by decide) ?_
    refine cf_iload_n C dX1_joined_153 rfl 0 rfl ?_
    refine cf_iload_n C dX1_joined_154 rfl 2 rfl ?_
    refine cf_iadd C dX1_joined_155 ?_
    exact hR _ _ _ _ dX1_joined_156 hm
  rcases ifc hm with ⟨hx, hm⟩ | ⟨h1_45, hm⟩
  · refine cf_lk C dX1_joined_1 (by decide +kernel) (off := 156) (by rw [hx]; rfl) (tgt := 157) (by decide) ?_
    refine cf_iload_n C dX1_joined_157 rfl 0 rfl ?_
    refine cf_iload_n C dX1_joined_158 rfl 2 rfl ?_
    refine cf_isub C dX1_joined_159 ?_
    exact hR _ _ _ _ dX1_joined_160 hm
  rcases ifc hm with ⟨hx, hm⟩ | ⟨h1_47, hm⟩
  · refine cf_lk C dX1_joined_1 (by decide +kernel) (off := 164) (by rw [hx]; rfl) (tgt := 165) (by decide) ?_
    refine cf_iload_n C dX1_joined_165 rfl 2 rfl ?_
    refine cf_if_ne C (tgt := 173) dX1_joined_166 (by decide) hm (fun hm => ?_) (fun hm => ?_)
    · refine cf_iload_n C dX1_joined_173 rfl 0 rfl ?_
      refine cf_iload_n C dX1_joined_174 rfl 2 rfl ?_
      refine cf_idiv C dX1_joined_175 hm (fun hm => ?_)
      exact hR _ _ _ _ dX1_joined_176 hm
    · refine cf_iconst C dX1_joined_169 (v := 0) rfl ?_
      refine cf_goto C (tgt := 176) dX1_joined_170 (by decide) ?_
      exact hR _ _ _ _ dX1_joined_176 hm
  rcases ifc hm with ⟨hx, hm⟩ | ⟨h1_60, hm⟩
  · refine cf_lk C dX1_joined_1 (by decide +kernel) (off := 119) (by rw [hx]; rfl) (tgt := 120) (by decide) ?_
    refine cf_iload_n C dX1_joined_120 rfl 0 rfl ?_
    refine cf_iload_n C dX1_joined_121 rfl 2 rfl ?_
    refine cf_icmp_ge C (tgt := 129) dX1_joined_122 (by decide) hm (fun hm => ?_) (fun hm => ?_)
    · refine cf_iconst C dX1_joined_129 (v := 0) rfl ?_
      exact hR _ _ _ _ dX1_joined_130 hm
    · refine cf_iconst C dX1_joined_125 (v := 1) rfl ?_
      refine cf_goto C (tgt := 130) dX1_joined_126 (by decide) ?_
      exact hR _ _ _ _ dX1_joined_130 hm
  rcases ifc hm with ⟨hx, hm⟩ | ⟨h1_61, hm⟩
  · refine cf_lk C dX1_joined_1 (by decide +kernel) (off := 130) (by rw [hx]; rfl) (tgt := 131) (by decide) ?_
    refine cf_iload_n C dX1_joined_131 rfl 0 rfl ?_
    refine cf_iload_n C dX1_joined_132 rfl 2 rfl ?_
    refine cf_icmp_ne C (tgt := 140) dX1_joined_133 (by decide) hm (fun hm => ?_) (fun hm => ?_)
    · refine cf_iconst C dX1_joined_140 (v := 0) rfl ?_
      exact hR _ _ _ _ dX1_joined_141 hm
    · refine cf_iconst C dX1_joined_136 (v := 1) rfl ?_
      refine cf_goto C (tgt := 141) dX1_joined_137 (by decide) ?_
      exact hR _ _ _ _ dX1_joined_141 hm
  rcases ifc hm with ⟨hx, hm⟩ | ⟨h1_62, hm⟩
  · refine cf_lk C dX1_joined_1 (by decide +kernel) (off := 141) (by rw [hx]; rfl) (tgt := 142) (by decide) ?_
    refine cf_iload_n C dX1_joined_142 rfl 0 rfl ?_
    refine cf_iload_n C dX1_joined_143 rfl 2 rfl ?_
    refine cf_icmp_le C (tgt := 151) dX1_joined_144 (by decide) hm (fun hm => ?_) (fun hm => ?_)
    · refine cf_iconst C dX1_joined_151 (v := 0) rfl ?_
      exact hR _ _ _ _ dX1_joined_152 hm
    · refine cf_iconst C dX1_joined_147 (v := 1) rfl ?_
      refine cf_goto C (tgt := 152) dX1_joined_148 (by decide) ?_
      exact hR _ _ _ _ dX1_joined_152 hm
  rcases ifc hm with ⟨hx, hm⟩ | ⟨h1_124, hm⟩
  · refine cf_lk C dX1_joined_1 (by decide +kernel) (off := 91) (by rw [hx]; rfl) (tgt := 92) (by decide) ?_
    refine cf_iload_n C dX1_joined_92 rfl 0 rfl ?_
    refine cf_if_ne C (tgt := 100) dX1_joined_93 (by decide) hm (fun hm => ?_) (fun hm => ?_)
    · refine cf_iconst C dX1_joined_100 (v := 1) rfl ?_
      refine cf_goto C (tgt := 105) dX1_joined_101 (by decide) ?_
      exact hR _ _ _ _ dX1_joined_105 hm
    · refine cf_iload_n C dX1_joined_96 rfl 2 rfl ?_
      refine cf_if_eq C (tgt := 104) dX1_joined_97 (by decide) hm (fun hm => ?_) (fun hm => ?_)
      · refine cf_iconst C dX1_joined_104 (v := 0) rfl ?_
        exact hR _ _ _ _ dX1_joined_105 hm
      · refine cf_iconst C dX1_joined_100 (v := 1) rfl ?_
        refine cf_goto C (tgt := 105) dX1_joined_101 (by decide) ?_
        exact hR _ _ _ _ dX1_joined_105 hm
  refine cf_lk C dX1_joined_1 (by decide +kernel) (off := 188) (show Op.lookupswitch.offset [(37, 176), (38, 105), (42, 160), (43, 152), (45, 156), (47, 164), (60, 119), (61, 130), (62, 141), (124, 91)] 188 _ = _ from ((lv_osw h1_37 rfl).trans ((lv_osw h1_38 rfl).trans ((lv_osw h1_42 rfl).trans ((lv_osw h1_43 rfl).trans ((lv_osw h1_45 rfl).trans ((lv_osw h1_47 rfl).trans ((lv_osw h1_60 rfl).trans ((lv_osw h1_61 rfl).trans ((lv_osw h1_62 rfl).trans ((lv_osw h1_124 rfl).trans rfl))))))))))) (tgt := 189) (by decide) ?_
  refine cf_iconst C dX1_joined_189 (v := 0) rfl ?_
  exact hR _ _ _ _ dX1_joined_190 hm

def J_X1_gives_196 (o : Nat)  (K18 : Int32 → Int32 → Int32 → Int32 → Int32 → St → Prop) (Q : Int32 → St → Prop) (x1 : Int32) (x2 : Int32) (x3 : Int32) (x4 : Int32) (x5 : Int32) (S : St) : Prop := nmI (x5 + 1) (fun v5 => K18 x1 x2 x3 x4 v5 S)
set_option maxRecDepth 20000 in
theorem w_J_X1_gives_196 {E : EV} {Q : Int32 → St → Prop} {o : Nat}  (C : CX E cX1_gives RX1 7 enC 2 43) (ho : okO enC o 1)  (hR : RTi E cX1_gives Q) {K18 : Int32 → Int32 → Int32 → Int32 → Int32 → St → Prop} (hK18 : ∀ (x1 : Int32) (x2 : Int32) (x3 : Int32) (x4 : Int32) (x5 : Int32) (S : St), K18 x1 x2 x3 x4 x5 S → CF E S 18 [(0, .ref (adr (vG E) o 0)), (1, .int x1), (2, .int x2), (3, .int x3), (4, .int x4), (5, .int x5)] []) : ∀ (x1 : Int32) (x2 : Int32) (x3 : Int32) (x4 : Int32) (x5 : Int32) (S : St), J_X1_gives_196 o K18 Q x1 x2 x3 x4 x5 S → CF E S 196 [(0, .ref (adr (vG E) o 0)), (1, .int x1), (2, .int x2), (3, .int x3), (4, .int x4), (5, .int x5)] [] := by
  intro x1 x2 x3 x4 x5 S hm
  unfold J_X1_gives_196 at hm
  refine cf_iincN C (L1 := fun v5 => [(5, .int v5), (0, .ref (adr (vG E) o 0)), (1, .int x1), (2, .int x2), (3, .int x3), (4, .int x4)]) dX1_gives_196 5 rfl rfl (by decide) (fun _ => rfl) hm (fun v5 hm => ?_)
  refine cf_goto C (tgt := 18) dX1_gives_199 (by decide) ?_
  refine cf_sub C [1, 2, 3, 4, 5, 0] rfl ?_
  exact hK18 x1 x2 x3 x4 v5 _ hm
def J_X1_gives_145 (o : Nat)  (K18 : Int32 → Int32 → Int32 → Int32 → Int32 → St → Prop) (Q : Int32 → St → Prop) (x1 : Int32) (x2 : Int32) (x3 : Int32) (x4 : Int32) (x5 : Int32) (x6 : Int32) (S : St) : Prop := if x6 ≤ 20000 then (J_X1_gives_196 o K18 Q x1 x2 x3 x4 x5 S) else (if x4 < 2 then (J_X1_gives_196 o K18 Q x1 x2 x3 x4 x5 S) else (nmI (x4 + (-1)) (fun v6 => vp_in (v6 - 1) 60 ∧ (vp_in v6 60 ∧ (E_X1_joined (S.2 o 3 (v6 - 1).toNatClampNeg) (x6 - 20000) (S.2 o 3 v6.toNatClampNeg) S (fun v8 S7 => vp_in (v6 - 1) 60 ∧ (nmS (stR S7 o 3 (upd (S7.2 o 3) (v6 - 1).toNatClampNeg v8)) (fun S9 => J_X1_gives_196 o K18 Q x1 x2 x3 v6 x5 S9))))))))
set_option maxRecDepth 20000 in
theorem w_J_X1_gives_145 {E : EV} {Q : Int32 → St → Prop} {o : Nat}  (C : CX E cX1_gives RX1 7 enC 2 43) (ho : okO enC o 1)  (hR : RTi E cX1_gives Q) {K18 : Int32 → Int32 → Int32 → Int32 → Int32 → St → Prop} (hK18 : ∀ (x1 : Int32) (x2 : Int32) (x3 : Int32) (x4 : Int32) (x5 : Int32) (S : St), K18 x1 x2 x3 x4 x5 S → CF E S 18 [(0, .ref (adr (vG E) o 0)), (1, .int x1), (2, .int x2), (3, .int x3), (4, .int x4), (5, .int x5)] []) : ∀ (x1 : Int32) (x2 : Int32) (x3 : Int32) (x4 : Int32) (x5 : Int32) (x6 : Int32) (S : St), J_X1_gives_145 o K18 Q x1 x2 x3 x4 x5 x6 S → CF E S 145 [(0, .ref (adr (vG E) o 0)), (1, .int x1), (2, .int x2), (3, .int x3), (4, .int x4), (5, .int x5), (6, .int x6)] [] := by
  intro x1 x2 x3 x4 x5 x6 S hm
  unfold J_X1_gives_145 at hm
  refine cf_iload C dX1_gives_145 6 rfl ?_
  refine cf_sipush C dX1_gives_147 (v := 20000) rfl ?_
  refine cf_icmp_le C (tgt := 196) dX1_gives_150 (by decide) hm (fun hm => ?_) (fun hm => ?_)
  · refine cf_sub C [0, 1, 2, 3, 4, 5] rfl ?_
    exact w_J_X1_gives_196 C ho hR hK18 x1 x2 x3 x4 x5 _ hm
  · refine cf_iload C dX1_gives_153 4 rfl ?_
    refine cf_iconst C dX1_gives_155 (v := 2) rfl ?_
    refine cf_icmp_lt C (tgt := 196) dX1_gives_156 (by decide) hm (fun hm => ?_) (fun hm => ?_)
    · refine cf_sub C [0, 1, 2, 3, 4, 5] rfl ?_
      exact w_J_X1_gives_196 C ho hR hK18 x1 x2 x3 x4 x5 _ hm
    · refine cf_iincN C (L1 := fun v6 => [(4, .int v6), (0, .ref (adr (vG E) o 0)), (1, .int x1), (2, .int x2), (3, .int x3), (5, .int x5), (6, .int x6)]) dX1_gives_159 4 rfl rfl (by decide) (fun _ => rfl) hm (fun v6 hm => ?_)
      refine cf_aload_n C dX1_gives_162 rfl 1 rfl ?_
      refine gf_1_3 C inX1 ho q99 dX1_gives_163 ?_
      refine cf_iload C dX1_gives_166 0 rfl ?_
      refine cf_iconst C dX1_gives_168 (v := 1) rfl ?_
      refine cf_isub C dX1_gives_169 ?_
      refine cf_aload_n C dX1_gives_170 rfl 1 rfl ?_
      refine gf_1_3 C inX1 ho q99 dX1_gives_171 ?_
      refine cf_iload C dX1_gives_174 0 rfl ?_
      refine cf_iconst C dX1_gives_176 (v := 1) rfl ?_
      refine cf_isub C dX1_gives_177 ?_
      refine cf_iald C (okA_of 3 ho rfl (by decide) (by decide) (by decide)) dX1_gives_178 hm (fun hm => ?_)
      refine cf_iload C dX1_gives_179 6 rfl ?_
      refine cf_sipush C dX1_gives_181 (v := 20000) rfl ?_
      refine cf_isub C dX1_gives_184 ?_
      refine cf_aload_n C dX1_gives_185 rfl 1 rfl ?_
      refine gf_1_3 C inX1 ho q99 dX1_gives_186 ?_
      refine cf_iload C dX1_gives_189 0 rfl ?_
      refine cf_iald C (okA_of 3 ho rfl (by decide) (by decide) (by decide)) dX1_gives_191 hm (fun hm => ?_)
      refine cf_callSi C [.int (S.2 o 3 (v6 - 1).toNatClampNeg), .int (x6 - 20000), .int (S.2 o 3 v6.toNatClampNeg)] [.int (v6 - 1), .ref (adr (vG E) o 4)] q352 (c_X1_joined (vL E) (vG E) (S.2 o 3 (v6 - 1).toNatClampNeg) (x6 - 20000) (S.2 o 3 v6.toNatClampNeg) _ _  hm) q351 q353 q67 md_X1_joined (Nat.le_of_ble_eq_true rfl) (Nat.le_of_ble_eq_true rfl) rfl rfl (Nat.le_of_ble_eq_true rfl) dX1_gives_192 (fun v8 S7 hm => ?_)
      refine cf_iast C (okA_of 3 ho rfl (by decide) (by decide) (by decide)) dX1_gives_195 hm (fun hm => ?_)
      refine cf_nmS hm (fun S9 hm => ?_)
      refine cf_sub C [1, 2, 3, 4, 0, 5] rfl ?_
      exact w_J_X1_gives_196 C ho hR hK18 x1 x2 x3 v6 x5 _ hm
def J_X1_gives_102 (o : Nat)  (K18 : Int32 → Int32 → Int32 → Int32 → Int32 → St → Prop) (Q : Int32 → St → Prop) (x1 : Int32) (x2 : Int32) (x3 : Int32) (x4 : Int32) (x5 : Int32) (x6 : Int32) (S : St) : Prop := if x6 = 20033 then (if x4 < 1 then (J_X1_gives_145 o K18 Q x1 x2 x3 x4 x5 x6 S) else (vp_in (x4 - 1) 60 ∧ (if (S.2 o 3 (x4 - 1).toNatClampNeg) = 0 then (vp_in (x4 - 1) 60 ∧ (nmS (stR S o 3 (upd (S.2 o 3) (x4 - 1).toNatClampNeg 1)) (fun S11 => J_X1_gives_196 o K18 Q x1 x2 x3 x4 x5 S11))) else (vp_in (x4 - 1) 60 ∧ (nmS (stR S o 3 (upd (S.2 o 3) (x4 - 1).toNatClampNeg 0)) (fun S10 => J_X1_gives_196 o K18 Q x1 x2 x3 x4 x5 S10)))))) else (J_X1_gives_145 o K18 Q x1 x2 x3 x4 x5 x6 S)
set_option maxRecDepth 20000 in
theorem w_J_X1_gives_102 {E : EV} {Q : Int32 → St → Prop} {o : Nat}  (C : CX E cX1_gives RX1 7 enC 2 43) (ho : okO enC o 1)  (hR : RTi E cX1_gives Q) {K18 : Int32 → Int32 → Int32 → Int32 → Int32 → St → Prop} (hK18 : ∀ (x1 : Int32) (x2 : Int32) (x3 : Int32) (x4 : Int32) (x5 : Int32) (S : St), K18 x1 x2 x3 x4 x5 S → CF E S 18 [(0, .ref (adr (vG E) o 0)), (1, .int x1), (2, .int x2), (3, .int x3), (4, .int x4), (5, .int x5)] []) : ∀ (x1 : Int32) (x2 : Int32) (x3 : Int32) (x4 : Int32) (x5 : Int32) (x6 : Int32) (S : St), J_X1_gives_102 o K18 Q x1 x2 x3 x4 x5 x6 S → CF E S 102 [(0, .ref (adr (vG E) o 0)), (1, .int x1), (2, .int x2), (3, .int x3), (4, .int x4), (5, .int x5), (6, .int x6)] [] := by
  intro x1 x2 x3 x4 x5 x6 S hm
  unfold J_X1_gives_102 at hm
  refine cf_iload C dX1_gives_102 6 rfl ?_
  refine cf_sipush C dX1_gives_104 (v := 20033) rfl ?_
  refine cf_icmp_ne C (tgt := 145) dX1_gives_107 (by decide) hm (fun hm => ?_) (fun hm => ?_)
  · exact w_J_X1_gives_145 C ho hR hK18 x1 x2 x3 x4 x5 x6 _ hm
  · refine cf_iload C dX1_gives_110 4 rfl ?_
    refine cf_iconst C dX1_gives_112 (v := 1) rfl ?_
    refine cf_icmp_lt C (tgt := 145) dX1_gives_113 (by decide) hm (fun hm => ?_) (fun hm => ?_)
    · exact w_J_X1_gives_145 C ho hR hK18 x1 x2 x3 x4 x5 x6 _ hm
    · refine cf_aload_n C dX1_gives_116 rfl 0 rfl ?_
      refine gf_1_3 C inX1 ho q99 dX1_gives_117 ?_
      refine cf_iload C dX1_gives_120 4 rfl ?_
      refine cf_iconst C dX1_gives_122 (v := 1) rfl ?_
      refine cf_isub C dX1_gives_123 ?_
      refine cf_aload_n C dX1_gives_124 rfl 0 rfl ?_
      refine gf_1_3 C inX1 ho q99 dX1_gives_125 ?_
      refine cf_iload C dX1_gives_128 4 rfl ?_
      refine cf_iconst C dX1_gives_130 (v := 1) rfl ?_
      refine cf_isub C dX1_gives_131 ?_
      refine cf_iald C (okA_of 3 ho rfl (by decide) (by decide) (by decide)) dX1_gives_132 hm (fun hm => ?_)
      refine cf_if_ne C (tgt := 140) dX1_gives_133 (by decide) hm (fun hm => ?_) (fun hm => ?_)
      · refine cf_iconst C dX1_gives_140 (v := 0) rfl ?_
        refine cf_iast C (okA_of 3 ho rfl (by decide) (by decide) (by decide)) dX1_gives_141 hm (fun hm => ?_)
        refine cf_nmS hm (fun S10 hm => ?_)
        refine cf_goto C (tgt := 196) dX1_gives_142 (by decide) ?_
        refine cf_sub C [0, 1, 2, 3, 4, 5] rfl ?_
        exact w_J_X1_gives_196 C ho hR hK18 x1 x2 x3 x4 x5 _ hm
      · refine cf_iconst C dX1_gives_136 (v := 1) rfl ?_
        refine cf_goto C (tgt := 141) dX1_gives_137 (by decide) ?_
        refine cf_iast C (okA_of 3 ho rfl (by decide) (by decide) (by decide)) dX1_gives_141 hm (fun hm => ?_)
        refine cf_nmS hm (fun S11 hm => ?_)
        refine cf_goto C (tgt := 196) dX1_gives_142 (by decide) ?_
        refine cf_sub C [0, 1, 2, 3, 4, 5] rfl ?_
        exact w_J_X1_gives_196 C ho hR hK18 x1 x2 x3 x4 x5 _ hm
def J_X1_gives_95 (o : Nat)  (K18 : Int32 → Int32 → Int32 → Int32 → Int32 → St → Prop) (Q : Int32 → St → Prop) (x1 : Int32) (x2 : Int32) (x3 : Int32) (x4 : Int32) (x5 : Int32) (t0 : Int32) (t1 : Int32) (S : St) : Prop := vp_in t1 60 ∧ (nmS (stR S o 3 (upd (S.2 o 3) t1.toNatClampNeg t0)) (fun S12 => nmI (x4 + 1) (fun v13 => J_X1_gives_196 o K18 Q x1 x2 x3 v13 x5 S12)))
set_option maxRecDepth 20000 in
theorem w_J_X1_gives_95 {E : EV} {Q : Int32 → St → Prop} {o : Nat}  (C : CX E cX1_gives RX1 7 enC 2 43) (ho : okO enC o 1)  (hR : RTi E cX1_gives Q) {K18 : Int32 → Int32 → Int32 → Int32 → Int32 → St → Prop} (hK18 : ∀ (x1 : Int32) (x2 : Int32) (x3 : Int32) (x4 : Int32) (x5 : Int32) (S : St), K18 x1 x2 x3 x4 x5 S → CF E S 18 [(0, .ref (adr (vG E) o 0)), (1, .int x1), (2, .int x2), (3, .int x3), (4, .int x4), (5, .int x5)] []) : ∀ (x1 : Int32) (x2 : Int32) (x3 : Int32) (x4 : Int32) (x5 : Int32) (t0 : Int32) (t1 : Int32) (S : St), J_X1_gives_95 o K18 Q x1 x2 x3 x4 x5 t0 t1 S → CF E S 95 [(0, .ref (adr (vG E) o 0)), (1, .int x1), (2, .int x2), (3, .int x3), (4, .int x4), (5, .int x5)] [.int t0, .int t1, .ref (adr (vG E) o 4)] := by
  intro x1 x2 x3 x4 x5 t0 t1 S hm
  unfold J_X1_gives_95 at hm
  refine cf_iast C (okA_of 3 ho rfl (by decide) (by decide) (by decide)) dX1_gives_95 hm (fun hm => ?_)
  refine cf_nmS hm (fun S12 hm => ?_)
  refine cf_iincN C (L1 := fun v13 => [(4, .int v13), (0, .ref (adr (vG E) o 0)), (1, .int x1), (2, .int x2), (3, .int x3), (5, .int x5)]) dX1_gives_96 4 rfl rfl (by decide) (fun _ => rfl) hm (fun v13 hm => ?_)
  refine cf_goto C (tgt := 196) dX1_gives_99 (by decide) ?_
  refine cf_sub C [1, 2, 3, 4, 0, 5] rfl ?_
  exact w_J_X1_gives_196 C ho hR hK18 x1 x2 x3 v13 x5 _ hm
def L_X1_gives_18 (o : Nat)   (Q : Int32 → St → Prop) : Nat → Int32 → Int32 → Int32 → Int32 → Int32 → St → Prop
  | 0 => fun _ _ _ _ _ _ => False
  | n + 1 => fun x1 x2 x3 x4 x5 S => if (S.1 o 4) ≤ x5 then (vp_in 0 60 ∧ (Q (if (0 : Int32) < (if (S.2 o 3 (0 : Int32).toNatClampNeg) < (S.1 o 0) then (S.2 o 3 (0 : Int32).toNatClampNeg) else (S.1 o 0)) then (if (S.2 o 3 (0 : Int32).toNatClampNeg) < (S.1 o 0) then (S.2 o 3 (0 : Int32).toNatClampNeg) else (S.1 o 0)) else 0) S)) else (vp_in x5 60 ∧ (nmI (S.2 o 2 x5.toNatClampNeg) (fun v4 => if 20000 ≤ v4 then (J_X1_gives_102 o (L_X1_gives_18 o Q n) Q x1 x2 x3 x4 x5 v4 S) else (if 60 ≤ x4 then (J_X1_gives_102 o (L_X1_gives_18 o Q n) Q x1 x2 x3 x4 x5 v4 S) else (if 10000 ≤ v4 then (if v4 = 10000 then (J_X1_gives_95 o (L_X1_gives_18 o Q n) Q x1 x2 x3 x4 x5 x1 x4 S) else (if v4 = 10001 then (J_X1_gives_95 o (L_X1_gives_18 o Q n) Q x1 x2 x3 x4 x5 x2 x4 S) else (J_X1_gives_95 o (L_X1_gives_18 o Q n) Q x1 x2 x3 x4 x5 x3 x4 S))) else (J_X1_gives_95 o (L_X1_gives_18 o Q n) Q x1 x2 x3 x4 x5 v4 x4 S))))))
set_option maxRecDepth 20000 in
theorem w_L_X1_gives_18 {E : EV} {Q : Int32 → St → Prop} {o : Nat}  (C : CX E cX1_gives RX1 7 enC 2 43) (ho : okO enC o 1)  (hR : RTi E cX1_gives Q) : ∀ (n : Nat) (x1 : Int32) (x2 : Int32) (x3 : Int32) (x4 : Int32) (x5 : Int32) (S : St), L_X1_gives_18 o Q n x1 x2 x3 x4 x5 S → CF E S 18 [(0, .ref (adr (vG E) o 0)), (1, .int x1), (2, .int x2), (3, .int x3), (4, .int x4), (5, .int x5)] [] := by
  intro n
  induction n with
  | zero =>
    intro x1 x2 x3 x4 x5 S hm
    exact hm.elim
  | succ n ih =>
    intro x1 x2 x3 x4 x5 S hm
    unfold L_X1_gives_18 at hm
    refine cf_iload C dX1_gives_18 5 rfl ?_
    refine cf_aload_n C dX1_gives_20 rfl 0 rfl ?_
    refine gf_1_4 C inX1 ho q100 dX1_gives_21 ?_
    refine cf_icmp_ge C (tgt := 202) dX1_gives_24 (by decide) hm (fun hm => ?_) (fun hm => ?_)
    · refine cf_iconst C dX1_gives_202 (v := 0) rfl ?_
      refine cf_aload_n C dX1_gives_203 rfl 0 rfl ?_
      refine gf_1_0 C inX1 ho q96 dX1_gives_204 ?_
      refine cf_aload_n C dX1_gives_207 rfl 0 rfl ?_
      refine gf_1_3 C inX1 ho q99 dX1_gives_208 ?_
      refine cf_iconst C dX1_gives_211 (v := 0) rfl ?_
      refine cf_iald C (okA_of 3 ho rfl (by decide) (by decide) (by decide)) dX1_gives_212 hm (fun hm => ?_)
      refine cf_mmin C q354 q355 q73 q356 (Nat.le_of_ble_eq_true rfl) (Nat.le_of_ble_eq_true rfl) (Nat.le_of_ble_eq_true rfl) dX1_gives_213 ?_
      refine cf_mmax C q357 q358 q73 q359 (Nat.le_of_ble_eq_true rfl) (Nat.le_of_ble_eq_true rfl) (Nat.le_of_ble_eq_true rfl) dX1_gives_216 ?_
      exact hR _ _ _ _ dX1_gives_219 hm
    · refine cf_aload_n C dX1_gives_27 rfl 0 rfl ?_
      refine gf_1_2 C inX1 ho q98 dX1_gives_28 ?_
      refine cf_iload C dX1_gives_31 5 rfl ?_
      refine cf_iald C (okA_of 2 ho rfl (by decide) (by decide) (by decide)) dX1_gives_33 hm (fun hm => ?_)
      refine cf_nmI hm (fun v4 hm => ?_)
      refine cf_istore C (L1 := [(6, .int v4), (0, .ref (adr (vG E) o 0)), (1, .int x1), (2, .int x2), (3, .int x3), (4, .int x4), (5, .int x5)]) dX1_gives_34 (by decide) rfl ?_
      refine cf_iload C dX1_gives_36 0 rfl ?_
      refine cf_sipush C dX1_gives_38 (v := 20000) rfl ?_
      refine cf_icmp_ge C (tgt := 102) dX1_gives_41 (by decide) hm (fun hm => ?_) (fun hm => ?_)
      · refine cf_sub C [1, 2, 3, 4, 5, 6, 0] rfl ?_
        exact w_J_X1_gives_102 C ho hR ih x1 x2 x3 x4 x5 v4 _ hm
      · refine cf_iload C dX1_gives_44 5 rfl ?_
        refine cf_bipush C dX1_gives_46 (v := 60) rfl ?_
        refine cf_icmp_ge C (tgt := 102) dX1_gives_48 (by decide) hm (fun hm => ?_) (fun hm => ?_)
        · refine cf_sub C [1, 2, 3, 4, 5, 6, 0] rfl ?_
          exact w_J_X1_gives_102 C ho hR ih x1 x2 x3 x4 x5 v4 _ hm
        · refine cf_aload_n C dX1_gives_51 rfl 1 rfl ?_
          refine gf_1_3 C inX1 ho q99 dX1_gives_52 ?_
          refine cf_iload C dX1_gives_55 5 rfl ?_
          refine cf_iload C dX1_gives_57 0 rfl ?_
          refine cf_sipush C dX1_gives_59 (v := 10000) rfl ?_
          refine cf_icmp_ge C (tgt := 70) dX1_gives_62 (by decide) hm (fun hm => ?_) (fun hm => ?_)
          · refine cf_iload C dX1_gives_70 0 rfl ?_
            refine cf_sipush C dX1_gives_72 (v := 10000) rfl ?_
            refine cf_icmp_ne C (tgt := 82) dX1_gives_75 (by decide) hm (fun hm => ?_) (fun hm => ?_)
            · refine cf_iload C dX1_gives_82 0 rfl ?_
              refine cf_sipush C dX1_gives_84 (v := 10001) rfl ?_
              refine cf_icmp_ne C (tgt := 94) dX1_gives_87 (by decide) hm (fun hm => ?_) (fun hm => ?_)
              · refine cf_iload_n C dX1_gives_94 rfl 4 rfl ?_
                refine cf_sub C [1, 2, 3, 4, 5, 6] rfl ?_
                exact w_J_X1_gives_95 C ho hR ih x1 x2 x3 x4 x5 x3 x4 _ hm
              · refine cf_iload_n C dX1_gives_90 rfl 3 rfl ?_
                refine cf_goto C (tgt := 95) dX1_gives_91 (by decide) ?_
                refine cf_sub C [1, 2, 3, 4, 5, 6] rfl ?_
                exact w_J_X1_gives_95 C ho hR ih x1 x2 x3 x4 x5 x2 x4 _ hm
            · refine cf_iload_n C dX1_gives_78 rfl 2 rfl ?_
              refine cf_goto C (tgt := 95) dX1_gives_79 (by decide) ?_
              refine cf_sub C [1, 2, 3, 4, 5, 6] rfl ?_
              exact w_J_X1_gives_95 C ho hR ih x1 x2 x3 x4 x5 x1 x4 _ hm
          · refine cf_iload C dX1_gives_65 0 rfl ?_
            refine cf_goto C (tgt := 95) dX1_gives_67 (by decide) ?_
            refine cf_sub C [1, 2, 3, 4, 5, 6] rfl ?_
            exact w_J_X1_gives_95 C ho hR ih x1 x2 x3 x4 x5 v4 x4 _ hm
def E_X1_gives (o : Nat) (x1 : Int32) (x2 : Int32) (x3 : Int32) (S : St) (Q : Int32 → St → Prop) : Prop := E_X1_withoutText o x1 x2 S (fun v2 S1 => vp_in 0 60 ∧ (nmS (stR S1 o 3 (upd (S1.2 o 3) (0 : Int32).toNatClampNeg v2)) (fun S3 => ∃ k, L_X1_gives_18 o Q k x1 x2 x3 0 0 S3)))
set_option maxRecDepth 20000 in
theorem c_X1_gives (l : Launch) (G : GX) (o : Nat) (x1 : Int32) (x2 : Int32) (x3 : Int32) (S : St) (Q : Int32 → St → Prop) (ho : okO enC o 1) (hm : E_X1_gives o x1 x2 x3 S Q) : CTi l yX1_gives (Cond.code yX1_gives cX1_gives 7 (some .int) :: AW) { frames := 2, cells := 0, slots := 0, locals := 43 } G enC [.ref (adr G o 0), .int x1, .int x2, .int x3] S Q := by
  refine ct_start_i (by decide) enC_nd (Nat.le_of_ble_eq_true rfl) (fun E hG hl C hR => ?_)
  subst hG
  subst hl
  show CF E S 0 [(0, .ref (adr (vG E) o 0)), (1, .int x1), (2, .int x2), (3, .int x3)] []
  unfold E_X1_gives at hm
  refine cf_aload_n C dX1_gives_0 rfl 0 rfl ?_
  refine gf_1_3 C inX1 ho q99 dX1_gives_1 ?_
  refine cf_iconst C dX1_gives_4 (v := 0) rfl ?_
  refine cf_aload_n C dX1_gives_5 rfl 0 rfl ?_
  refine cf_iload_n C dX1_gives_6 rfl 1 rfl ?_
  refine cf_iload_n C dX1_gives_7 rfl 2 rfl ?_
  refine cf_callVi C [.int x1, .int x2] [.int 0, .ref (adr (vG E) o 4)] ho.1 (ocell_1 ho.2.1) rfl q345 q2 (c_X1_withoutText (vL E) (vG E) o x1 x2 _ _ ho hm) q343 q346 q67 md_X1_withoutText (Nat.le_of_ble_eq_true rfl) (Nat.le_of_ble_eq_true rfl) rfl rfl (Nat.le_of_ble_eq_true rfl) dX1_gives_8 (fun v2 S1 hm => ?_)
  refine cf_iast C (okA_of 3 ho rfl (by decide) (by decide) (by decide)) dX1_gives_11 hm (fun hm => ?_)
  refine cf_nmS hm (fun S3 hm => ?_)
  refine cf_iconst C dX1_gives_12 (v := 0) rfl ?_
  refine cf_istore C (L1 := [(4, .int 0), (0, .ref (adr (vG E) o 0)), (1, .int x1), (2, .int x2), (3, .int x3)]) dX1_gives_13 (by decide) rfl ?_
  refine cf_iconst C dX1_gives_15 (v := 0) rfl ?_
  refine cf_istore C (L1 := [(5, .int 0), (4, .int 0), (0, .ref (adr (vG E) o 0)), (1, .int x1), (2, .int x2), (3, .int x3)]) dX1_gives_16 (by decide) rfl ?_
  refine cf_sub C [2, 3, 4, 5, 1, 0] rfl ?_
  obtain ⟨k, hm⟩ := hm
  exact w_L_X1_gives_18 C ho hR k x1 x2 x3 0 0 _ hm

def E_X4_claimOf (o : Nat) (x1 : Int32) (S : St) (Q : Int32 → St → Prop) : Prop := E_X4_claimOfKind o x1 S (fun v2 S1 => vp_in x1 9 ∧ (vp_in x1 9 ∧ (E_X1_gives (rf o 0) v2 (S1.2 o 8 x1.toNatClampNeg) (S1.2 o 7 x1.toNatClampNeg) S1 (fun v4 S3 => Q v4 S3))))
set_option maxRecDepth 20000 in
theorem c_X4_claimOf (l : Launch) (G : GX) (o : Nat) (x1 : Int32) (S : St) (Q : Int32 → St → Prop) (ho : okO enC o 4) (hm : E_X4_claimOf o x1 S Q) : CTi l yX4_claimOf (Cond.code yX4_claimOf cX4_claimOf 2 (some .int) :: AW) { frames := 3, cells := 0, slots := 0, locals := 69 } G enC [.ref (adr G o 0), .int x1] S Q := by
  refine ct_start_i (by decide) enC_nd (Nat.le_of_ble_eq_true rfl) (fun E hG hl C hR => ?_)
  subst hG
  subst hl
  show CF E S 0 [(0, .ref (adr (vG E) o 0)), (1, .int x1)] []
  unfold E_X4_claimOf at hm
  refine cf_aload_n C dX4_claimOf_0 rfl 0 rfl ?_
  refine gf_4_0 C inX4 ho q119 dX4_claimOf_1 ?_
  refine cf_aload_n C dX4_claimOf_4 rfl 0 rfl ?_
  refine cf_iload_n C dX4_claimOf_5 rfl 1 rfl ?_
  refine cf_callVi C [.int x1] [.ref (adr (vG E) (rf o 0) 0)] ho.1 (ocell_4 ho.2.1) rfl q337 q1 (c_X4_claimOfKind (vL E) (vG E) o x1 _ _ ho hm) q335 q338 q68 md_X4_claimOfKind (Nat.le_of_ble_eq_true rfl) (Nat.le_of_ble_eq_true rfl) rfl rfl (Nat.le_of_ble_eq_true rfl) dX4_claimOf_6 (fun v2 S1 hm => ?_)
  refine cf_aload_n C dX4_claimOf_9 rfl 0 rfl ?_
  refine gf_4_8 C inX4 ho q137 dX4_claimOf_10 ?_
  refine cf_iload_n C dX4_claimOf_13 rfl 1 rfl ?_
  refine cf_iald C (okA_of 8 ho rfl (by decide) (by decide) (by decide)) dX4_claimOf_14 hm (fun hm => ?_)
  refine cf_aload_n C dX4_claimOf_15 rfl 0 rfl ?_
  refine gf_4_7 C inX4 ho q134 dX4_claimOf_16 ?_
  refine cf_iload_n C dX4_claimOf_19 rfl 1 rfl ?_
  refine cf_iald C (okA_of 7 ho rfl (by decide) (by decide) (by decide)) dX4_claimOf_20 hm (fun hm => ?_)
  refine cf_callVi C [.int v2, .int (S1.2 o 8 x1.toNatClampNeg), .int (S1.2 o 7 x1.toNatClampNeg)] [] (okC_4_0 ho).1 (ocell_1 (okC_4_0 ho).2.1) rfl q340 q341 (c_X1_gives (vL E) (vG E) (rf o 0) v2 (S1.2 o 8 x1.toNatClampNeg) (S1.2 o 7 x1.toNatClampNeg) _ _ (okC_4_0 ho) hm) q339 q342 q67 md_X1_gives (Nat.le_of_ble_eq_true rfl) (Nat.le_of_ble_eq_true rfl) rfl rfl (Nat.le_of_ble_eq_true rfl) dX4_claimOf_21 (fun v4 S3 hm => ?_)
  exact hR _ _ _ _ dX4_claimOf_24 hm

def E_X4_spoilOf (o : Nat) (x1 : Int32) (S : St) (Q : Int32 → St → Prop) : Prop := vp_in x1 9 ∧ (nmI ((S.2 o 8 x1.toNatClampNeg) / 5) (fun v1 => vp_in x1 9 ∧ (if (S.2 o 5 x1.toNatClampNeg) = 2 then (Q (v1 + 1) S) else (if (S.2 o 5 x1.toNatClampNeg) = 3 then (Q 0 S) else (if (S.2 o 5 x1.toNatClampNeg) = 4 then (Q (if (0 : Int32) < (v1 - 1) then (v1 - 1) else 0) S) else (if (S.2 o 5 x1.toNatClampNeg) = 5 then (vp_in x1 9 ∧ (if (S.2 o 6 x1.toNatClampNeg) ≤ 4 then (Q (v1 + 1) S) else (Q 0 S))) else (if (S.2 o 5 x1.toNatClampNeg) = 6 then (vp_in x1 9 ∧ (Q ((v1 * (S.2 o 6 x1.toNatClampNeg)) / 4) S)) else (Q v1 S))))))))
set_option maxRecDepth 20000 in
theorem c_X4_spoilOf (l : Launch) (G : GX) (o : Nat) (x1 : Int32) (S : St) (Q : Int32 → St → Prop) (ho : okO enC o 4) (hm : E_X4_spoilOf o x1 S Q) : CTi l yX4_spoilOf (Cond.code yX4_spoilOf cX4_spoilOf 3 (some .int) :: AW) { frames := 1, cells := 0, slots := 0, locals := 21 } G enC [.ref (adr G o 0), .int x1] S Q := by
  refine ct_start_i (by decide) enC_nd (Nat.le_of_ble_eq_true rfl) (fun E hG hl C hR => ?_)
  subst hG
  subst hl
  show CF E S 0 [(0, .ref (adr (vG E) o 0)), (1, .int x1)] []
  unfold E_X4_spoilOf at hm
  refine cf_aload_n C dX4_spoilOf_0 rfl 0 rfl ?_
  refine gf_4_8 C inX4 ho q137 dX4_spoilOf_1 ?_
  refine cf_iload_n C dX4_spoilOf_4 rfl 1 rfl ?_
  refine cf_iald C (okA_of 8 ho rfl (by decide) (by decide) (by decide)) dX4_spoilOf_5 hm (fun hm => ?_)
  refine cf_iconst C dX4_spoilOf_6 (v := 5) rfl ?_
  refine cf_idivC C dX4_spoilOf_7 (by decide) ?_
  refine cf_nmI hm (fun v1 hm => ?_)
  refine cf_istore_n C (L1 := [(2, .int v1), (0, .ref (adr (vG E) o 0)), (1, .int x1)]) dX4_spoilOf_8 rfl (by decide) rfl ?_
  refine cf_aload_n C dX4_spoilOf_9 rfl 1 rfl ?_
  refine gf_4_5 C inX4 ho q128 dX4_spoilOf_10 ?_
  refine cf_iload_n C dX4_spoilOf_13 rfl 2 rfl ?_
  refine cf_iald C (okA_of 5 ho rfl (by decide) (by decide) (by decide)) dX4_spoilOf_14 hm (fun hm => ?_)
  rcases ifc hm with ⟨hx, hm⟩ | ⟨h15_2, hm⟩
  · refine cf_tsIn C 2 dX4_spoilOf_15 (by rw [hx]; rfl) (by decide) (by decide) (off := 33) (by rfl) (tgt := 48) (by decide) ?_
    refine cf_iload_n C dX4_spoilOf_48 rfl 0 rfl ?_
    refine cf_iconst C dX4_spoilOf_49 (v := 1) rfl ?_
    refine cf_iadd C dX4_spoilOf_50 ?_
    exact hR _ _ _ _ dX4_spoilOf_51 hm
  rcases ifc hm with ⟨hx, hm⟩ | ⟨h15_3, hm⟩
  · refine cf_tsIn C 3 dX4_spoilOf_15 (by rw [hx]; rfl) (by decide) (by decide) (off := 37) (by rfl) (tgt := 52) (by decide) ?_
    refine cf_iconst C dX4_spoilOf_52 (v := 0) rfl ?_
    exact hR _ _ _ _ dX4_spoilOf_53 hm
  rcases ifc hm with ⟨hx, hm⟩ | ⟨h15_4, hm⟩
  · refine cf_tsIn C 4 dX4_spoilOf_15 (by rw [hx]; rfl) (by decide) (by decide) (off := 39) (by rfl) (tgt := 54) (by decide) ?_
    refine cf_iconst C dX4_spoilOf_54 (v := 0) rfl ?_
    refine cf_iload_n C dX4_spoilOf_55 rfl 0 rfl ?_
    refine cf_iconst C dX4_spoilOf_56 (v := 1) rfl ?_
    refine cf_isub C dX4_spoilOf_57 ?_
    refine cf_mmax C q364 q358 q73 q359 (Nat.le_of_ble_eq_true rfl) (Nat.le_of_ble_eq_true rfl) (Nat.le_of_ble_eq_true rfl) dX4_spoilOf_58 ?_
    exact hR _ _ _ _ dX4_spoilOf_61 hm
  rcases ifc hm with ⟨hx, hm⟩ | ⟨h15_5, hm⟩
  · refine cf_tsIn C 5 dX4_spoilOf_15 (by rw [hx]; rfl) (by decide) (by decide) (off := 47) (by rfl) (tgt := 62) (by decide) ?_
    refine cf_aload_n C dX4_spoilOf_62 rfl 1 rfl ?_
    refine gf_4_6 C inX4 ho q131 dX4_spoilOf_63 ?_
    refine cf_iload_n C dX4_spoilOf_66 rfl 2 rfl ?_
    refine cf_iald C (okA_of 6 ho rfl (by decide) (by decide) (by decide)) dX4_spoilOf_67 hm (fun hm => ?_)
    refine cf_iconst C dX4_spoilOf_68 (v := 4) rfl ?_
    refine cf_icmp_le C (tgt := 76) dX4_spoilOf_69 (by decide) hm (fun hm => ?_) (fun hm => ?_)
    · refine cf_iload_n C dX4_spoilOf_76 rfl 0 rfl ?_
      refine cf_iconst C dX4_spoilOf_77 (v := 1) rfl ?_
      refine cf_iadd C dX4_spoilOf_78 ?_
      exact hR _ _ _ _ dX4_spoilOf_79 hm
    · refine cf_iconst C dX4_spoilOf_72 (v := 0) rfl ?_
      refine cf_goto C (tgt := 79) dX4_spoilOf_73 (by decide) ?_
      exact hR _ _ _ _ dX4_spoilOf_79 hm
  rcases ifc hm with ⟨hx, hm⟩ | ⟨h15_6, hm⟩
  · refine cf_tsIn C 6 dX4_spoilOf_15 (by rw [hx]; rfl) (by decide) (by decide) (off := 65) (by rfl) (tgt := 80) (by decide) ?_
    refine cf_iload_n C dX4_spoilOf_80 rfl 0 rfl ?_
    refine cf_aload_n C dX4_spoilOf_81 rfl 1 rfl ?_
    refine gf_4_6 C inX4 ho q131 dX4_spoilOf_82 ?_
    refine cf_iload_n C dX4_spoilOf_85 rfl 2 rfl ?_
    refine cf_iald C (okA_of 6 ho rfl (by decide) (by decide) (by decide)) dX4_spoilOf_86 hm (fun hm => ?_)
    refine cf_imul C dX4_spoilOf_87 ?_
    refine cf_iconst C dX4_spoilOf_88 (v := 4) rfl ?_
    refine cf_idivC C dX4_spoilOf_89 (by decide) ?_
    exact hR _ _ _ _ dX4_spoilOf_90 hm
  refine cf_tsD C 5 [2, 3, 4, 5, 6] dX4_spoilOf_15 (by decide) (by decide +kernel) (List.forall_mem_cons.mpr ⟨lv_neT h15_2 rfl, (List.forall_mem_cons.mpr ⟨lv_neT h15_3 rfl, (List.forall_mem_cons.mpr ⟨lv_neT h15_4 rfl, (List.forall_mem_cons.mpr ⟨lv_neT h15_5 rfl, (List.forall_mem_cons.mpr ⟨lv_neT h15_6 rfl, (fun _ h => absurd h List.not_mem_nil)⟩)⟩)⟩)⟩)⟩) (tgt := 91) (by decide) ?_
  refine cf_iload_n C dX4_spoilOf_91 rfl 0 rfl ?_
  exact hR _ _ _ _ dX4_spoilOf_92 hm

def J_X4_sayer_35 (o : Nat)  (K4 : Int32 → Int32 → St → Prop) (Q : Int32 → St → Prop) (x1 : Int32) (x2 : Int32) (t0 : Int32) (t1 : Int32) (S : St) : Prop := vp_in t1 9 ∧ (nmS (stR S o 10 (upd (S.2 o 10) t1.toNatClampNeg t0)) (fun S1 => vp_in x2 9 ∧ (if (S1.2 o 10 x2.toNatClampNeg) < 0 then (nmI (x2 + 1) (fun v2 => K4 x1 v2 S1)) else (if x1 < 0 then (nmI (x2 + 1) (fun v3 => K4 x2 v3 S1)) else (vp_in x2 9 ∧ (vp_in x1 9 ∧ (if (S1.2 o 10 x2.toNatClampNeg) ≤ (S1.2 o 10 x1.toNatClampNeg) then (nmI (x2 + 1) (fun v4 => K4 x1 v4 S1)) else (nmI (x2 + 1) (fun v5 => K4 x2 v5 S1)))))))))
set_option maxRecDepth 20000 in
theorem w_J_X4_sayer_35 {E : EV} {Q : Int32 → St → Prop} {o : Nat}  (C : CX E cX4_sayer RX4 3 enC 4 90) (ho : okO enC o 4)  (hR : RTi E cX4_sayer Q) {K4 : Int32 → Int32 → St → Prop} (hK4 : ∀ (x1 : Int32) (x2 : Int32) (S : St), K4 x1 x2 S → CF E S 4 [(0, .ref (adr (vG E) o 0)), (1, .int x1), (2, .int x2)] []) : ∀ (x1 : Int32) (x2 : Int32) (t0 : Int32) (t1 : Int32) (S : St), J_X4_sayer_35 o K4 Q x1 x2 t0 t1 S → CF E S 35 [(0, .ref (adr (vG E) o 0)), (1, .int x1), (2, .int x2)] [.int t0, .int t1, .ref (adr (vG E) o 11)] := by
  intro x1 x2 t0 t1 S hm
  unfold J_X4_sayer_35 at hm
  refine cf_iast C (okA_of 10 ho rfl (by decide) (by decide) (by decide)) dX4_sayer_35 hm (fun hm => ?_)
  refine cf_nmS hm (fun S1 hm => ?_)
  refine cf_aload_n C dX4_sayer_36 rfl 0 rfl ?_
  refine gf_4_10 C inX4 ho q141 dX4_sayer_37 ?_
  refine cf_iload_n C dX4_sayer_40 rfl 2 rfl ?_
  refine cf_iald C (okA_of 10 ho rfl (by decide) (by decide) (by decide)) dX4_sayer_41 hm (fun hm => ?_)
  refine cf_if_lt C (tgt := 66) dX4_sayer_42 (by decide) hm (fun hm => ?_) (fun hm => ?_)
  · refine cf_iincN C (L1 := fun v2 => [(2, .int v2), (0, .ref (adr (vG E) o 0)), (1, .int x1)]) dX4_sayer_66 2 rfl rfl (by decide) (fun _ => rfl) hm (fun v2 hm => ?_)
    refine cf_goto C (tgt := 4) dX4_sayer_69 (by decide) ?_
    refine cf_sub C [1, 2, 0] rfl ?_
    exact hK4 x1 v2 _ hm
  · refine cf_iload_n C dX4_sayer_45 rfl 1 rfl ?_
    refine cf_if_lt C (tgt := 64) dX4_sayer_46 (by decide) hm (fun hm => ?_) (fun hm => ?_)
    · refine cf_iload_n C dX4_sayer_64 rfl 2 rfl ?_
      refine cf_istore_n C (L1 := [(1, .int x2), (0, .ref (adr (vG E) o 0)), (2, .int x2)]) dX4_sayer_65 rfl (by decide) rfl ?_
      refine cf_iincN C (L1 := fun v3 => [(2, .int v3), (1, .int x2), (0, .ref (adr (vG E) o 0))]) dX4_sayer_66 2 rfl rfl (by decide) (fun _ => rfl) hm (fun v3 hm => ?_)
      refine cf_goto C (tgt := 4) dX4_sayer_69 (by decide) ?_
      refine cf_sub C [2, 1, 0] rfl ?_
      exact hK4 x2 v3 _ hm
    · refine cf_aload_n C dX4_sayer_49 rfl 0 rfl ?_
      refine gf_4_10 C inX4 ho q141 dX4_sayer_50 ?_
      refine cf_iload_n C dX4_sayer_53 rfl 2 rfl ?_
      refine cf_iald C (okA_of 10 ho rfl (by decide) (by decide) (by decide)) dX4_sayer_54 hm (fun hm => ?_)
      refine cf_aload_n C dX4_sayer_55 rfl 0 rfl ?_
      refine gf_4_10 C inX4 ho q141 dX4_sayer_56 ?_
      refine cf_iload_n C dX4_sayer_59 rfl 1 rfl ?_
      refine cf_iald C (okA_of 10 ho rfl (by decide) (by decide) (by decide)) dX4_sayer_60 hm (fun hm => ?_)
      refine cf_icmp_le C (tgt := 66) dX4_sayer_61 (by decide) hm (fun hm => ?_) (fun hm => ?_)
      · refine cf_iincN C (L1 := fun v4 => [(2, .int v4), (0, .ref (adr (vG E) o 0)), (1, .int x1)]) dX4_sayer_66 2 rfl rfl (by decide) (fun _ => rfl) hm (fun v4 hm => ?_)
        refine cf_goto C (tgt := 4) dX4_sayer_69 (by decide) ?_
        refine cf_sub C [1, 2, 0] rfl ?_
        exact hK4 x1 v4 _ hm
      · refine cf_iload_n C dX4_sayer_64 rfl 2 rfl ?_
        refine cf_istore_n C (L1 := [(1, .int x2), (0, .ref (adr (vG E) o 0)), (2, .int x2)]) dX4_sayer_65 rfl (by decide) rfl ?_
        refine cf_iincN C (L1 := fun v5 => [(2, .int v5), (1, .int x2), (0, .ref (adr (vG E) o 0))]) dX4_sayer_66 2 rfl rfl (by decide) (fun _ => rfl) hm (fun v5 hm => ?_)
        refine cf_goto C (tgt := 4) dX4_sayer_69 (by decide) ?_
        refine cf_sub C [2, 1, 0] rfl ?_
        exact hK4 x2 v5 _ hm
def L_X4_sayer_4 (o : Nat)   (Q : Int32 → St → Prop) : Nat → Int32 → Int32 → St → Prop
  | 0 => fun _ _ _ => False
  | n + 1 => fun x1 x2 S => if (S.1 o 2) ≤ x2 then (Q x1 S) else (vp_in x2 9 ∧ (if (S.2 o 7 x2.toNatClampNeg) ≤ 0 then (J_X4_sayer_35 o (L_X4_sayer_4 o Q n) Q x1 x2 (-1) x2 S) else (E_X4_claimOf o x2 S (fun v7 S6 => J_X4_sayer_35 o (L_X4_sayer_4 o Q n) Q x1 x2 v7 x2 S6))))
set_option maxRecDepth 20000 in
theorem w_L_X4_sayer_4 {E : EV} {Q : Int32 → St → Prop} {o : Nat}  (C : CX E cX4_sayer RX4 3 enC 4 90) (ho : okO enC o 4)  (hR : RTi E cX4_sayer Q) : ∀ (n : Nat) (x1 : Int32) (x2 : Int32) (S : St), L_X4_sayer_4 o Q n x1 x2 S → CF E S 4 [(0, .ref (adr (vG E) o 0)), (1, .int x1), (2, .int x2)] [] := by
  intro n
  induction n with
  | zero =>
    intro x1 x2 S hm
    exact hm.elim
  | succ n ih =>
    intro x1 x2 S hm
    unfold L_X4_sayer_4 at hm
    refine cf_iload_n C dX4_sayer_4 rfl 2 rfl ?_
    refine cf_aload_n C dX4_sayer_5 rfl 0 rfl ?_
    refine gf_4_2 C inX4 ho q121 dX4_sayer_6 ?_
    refine cf_icmp_ge C (tgt := 72) dX4_sayer_9 (by decide) hm (fun hm => ?_) (fun hm => ?_)
    · refine cf_iload_n C dX4_sayer_72 rfl 1 rfl ?_
      exact hR _ _ _ _ dX4_sayer_73 hm
    · refine cf_aload_n C dX4_sayer_12 rfl 0 rfl ?_
      refine gf_4_10 C inX4 ho q141 dX4_sayer_13 ?_
      refine cf_iload_n C dX4_sayer_16 rfl 2 rfl ?_
      refine cf_aload_n C dX4_sayer_17 rfl 0 rfl ?_
      refine gf_4_7 C inX4 ho q134 dX4_sayer_18 ?_
      refine cf_iload_n C dX4_sayer_21 rfl 2 rfl ?_
      refine cf_iald C (okA_of 7 ho rfl (by decide) (by decide) (by decide)) dX4_sayer_22 hm (fun hm => ?_)
      refine cf_if_le C (tgt := 34) dX4_sayer_23 (by decide) hm (fun hm => ?_) (fun hm => ?_)
      · refine cf_iconst C dX4_sayer_34 (v := (-1)) rfl ?_
        exact w_J_X4_sayer_35 C ho hR ih x1 x2 (-1) x2 _ hm
      · refine cf_aload_n C dX4_sayer_26 rfl 0 rfl ?_
        refine cf_iload_n C dX4_sayer_27 rfl 2 rfl ?_
        refine cf_callVi C [.int x2] [.int x2, .ref (adr (vG E) o 11)] ho.1 (ocell_4 ho.2.1) rfl q332 q333 (c_X4_claimOf (vL E) (vG E) o x2 _ _ ho hm) q369 q334 q68 md_X4_claimOf (Nat.le_of_ble_eq_true rfl) (Nat.le_of_ble_eq_true rfl) rfl rfl (Nat.le_of_ble_eq_true rfl) dX4_sayer_28 (fun v7 S6 hm => ?_)
        refine cf_goto C (tgt := 35) dX4_sayer_31 (by decide) ?_
        exact w_J_X4_sayer_35 C ho hR ih x1 x2 v7 x2 _ hm
def E_X4_sayer (o : Nat) (S : St) (Q : Int32 → St → Prop) : Prop := ∃ k, L_X4_sayer_4 o Q k (-1) 0 S
set_option maxRecDepth 20000 in
theorem c_X4_sayer (l : Launch) (G : GX) (o : Nat) (S : St) (Q : Int32 → St → Prop) (ho : okO enC o 4) (hm : E_X4_sayer o S Q) : CTi l yX4_sayer (Cond.code yX4_sayer cX4_sayer 3 (some .int) :: AW) { frames := 4, cells := 0, slots := 0, locals := 90 } G enC [.ref (adr G o 0)] S Q := by
  refine ct_start_i (by decide) enC_nd (Nat.le_of_ble_eq_true rfl) (fun E hG hl C hR => ?_)
  subst hG
  subst hl
  show CF E S 0 [(0, .ref (adr (vG E) o 0))] []
  unfold E_X4_sayer at hm
  refine cf_iconst C dX4_sayer_0 (v := (-1)) rfl ?_
  refine cf_istore_n C (L1 := [(1, .int ((-1))), (0, .ref (adr (vG E) o 0))]) dX4_sayer_1 rfl (by decide) rfl ?_
  refine cf_iconst C dX4_sayer_2 (v := 0) rfl ?_
  refine cf_istore_n C (L1 := [(2, .int 0), (1, .int ((-1))), (0, .ref (adr (vG E) o 0))]) dX4_sayer_3 rfl (by decide) rfl ?_
  refine cf_sub C [2, 1, 0] rfl ?_
  obtain ⟨k, hm⟩ := hm
  exact w_L_X4_sayer_4 C ho hR k (-1) 0 _ hm

def E_X4_isKeptBy (o : Nat) (x1 : Int32) (x2 : Int32) (S : St) (Q : Int32 → St → Prop) : Prop := if x1 < 0 then (Q 0 S) else (vp_in x2 9 ∧ (vp_in x1 9 ∧ (E_X1_gives (rf o 1) (S.2 o 9 x2.toNatClampNeg) (S.2 o 9 x1.toNatClampNeg) ((S.1 o 3) - (S.1 o 3) / 7 * 7) S (fun v2 S1 => if v2 = 1 then (Q 1 S1) else (Q 0 S1)))))
set_option maxRecDepth 20000 in
theorem c_X4_isKeptBy (l : Launch) (G : GX) (o : Nat) (x1 : Int32) (x2 : Int32) (S : St) (Q : Int32 → St → Prop) (ho : okO enC o 4) (hm : E_X4_isKeptBy o x1 x2 S Q) : CTi l yX4_isKeptBy (Cond.code yX4_isKeptBy cX4_isKeptBy 3 (some .boolean) :: AW) { frames := 3, cells := 0, slots := 0, locals := 69 } G enC [.ref (adr G o 0), .int x1, .int x2] S Q := by
  refine ct_start_z (by decide) enC_nd (Nat.le_of_ble_eq_true rfl) (fun E hG hl C hR => ?_)
  subst hG
  subst hl
  show CF E S 0 [(0, .ref (adr (vG E) o 0)), (1, .int x1), (2, .int x2)] []
  unfold E_X4_isKeptBy at hm
  refine cf_iload_n C dX4_isKeptBy_0 rfl 1 rfl ?_
  refine cf_if_lt C (tgt := 38) dX4_isKeptBy_1 (by decide) hm (fun hm => ?_) (fun hm => ?_)
  · refine cf_iconst C dX4_isKeptBy_38 (v := 0) rfl ?_
    exact hR _ _ _ _ dX4_isKeptBy_39 (Or.inl rfl) hm
  · refine cf_aload_n C dX4_isKeptBy_4 rfl 0 rfl ?_
    refine gf_4_1 C inX4 ho q120 dX4_isKeptBy_5 ?_
    refine cf_aload_n C dX4_isKeptBy_8 rfl 0 rfl ?_
    refine gf_4_9 C inX4 ho q139 dX4_isKeptBy_9 ?_
    refine cf_iload_n C dX4_isKeptBy_12 rfl 2 rfl ?_
    refine cf_iald C (okA_of 9 ho rfl (by decide) (by decide) (by decide)) dX4_isKeptBy_13 hm (fun hm => ?_)
    refine cf_aload_n C dX4_isKeptBy_14 rfl 0 rfl ?_
    refine gf_4_9 C inX4 ho q139 dX4_isKeptBy_15 ?_
    refine cf_iload_n C dX4_isKeptBy_18 rfl 1 rfl ?_
    refine cf_iald C (okA_of 9 ho rfl (by decide) (by decide) (by decide)) dX4_isKeptBy_19 hm (fun hm => ?_)
    refine cf_aload_n C dX4_isKeptBy_20 rfl 0 rfl ?_
    refine gf_4_3 C inX4 ho q124 dX4_isKeptBy_21 ?_
    refine cf_bipush C dX4_isKeptBy_24 (v := 7) rfl ?_
    refine cf_iremC C dX4_isKeptBy_26 (by decide) ?_
    refine cf_callVi C [.int (S.2 o 9 x2.toNatClampNeg), .int (S.2 o 9 x1.toNatClampNeg), .int ((S.1 o 3) - (S.1 o 3) / 7 * 7)] [] (okC_4_1 ho).1 (ocell_1 (okC_4_1 ho).2.1) rfl q340 q341 (c_X1_gives (vL E) (vG E) (rf o 1) (S.2 o 9 x2.toNatClampNeg) (S.2 o 9 x1.toNatClampNeg) ((S.1 o 3) - (S.1 o 3) / 7 * 7) _ _ (okC_4_1 ho) hm) q339 q342 q67 md_X1_gives (Nat.le_of_ble_eq_true rfl) (Nat.le_of_ble_eq_true rfl) rfl rfl (Nat.le_of_ble_eq_true rfl) dX4_isKeptBy_27 (fun v2 S1 hm => ?_)
    refine cf_iconst C dX4_isKeptBy_30 (v := 1) rfl ?_
    refine cf_icmp_ne C (tgt := 38) dX4_isKeptBy_31 (by decide) hm (fun hm => ?_) (fun hm => ?_)
    · refine cf_iconst C dX4_isKeptBy_38 (v := 0) rfl ?_
      exact hR _ _ _ _ dX4_isKeptBy_39 (Or.inl rfl) hm
    · refine cf_iconst C dX4_isKeptBy_34 (v := 1) rfl ?_
      refine cf_goto C (tgt := 39) dX4_isKeptBy_35 (by decide) ?_
      exact hR _ _ _ _ dX4_isKeptBy_39 (Or.inr rfl) hm

def E_X6_dishIs (x1 : Int32) (x2 : Int32) (S : St) (Q : Int32 → St → Prop) : Prop := E_X4_has 3 x1 S (fun v2 S1 => if v2 = 0 then (E_X6_wrong 1 S1 (fun v14 S13 => Q v14 S13)) else (if x2 = 0 then (vp_in x1 9 ∧ (Q (S1.2 3 5 x1.toNatClampNeg) S1)) else (if x2 = 1 then (vp_in x1 9 ∧ (Q (S1.2 3 6 x1.toNatClampNeg) S1)) else (if x2 = 2 then (vp_in x1 9 ∧ (Q (S1.2 3 7 x1.toNatClampNeg) S1)) else (if x2 = 3 then (vp_in x1 9 ∧ (Q (S1.2 3 8 x1.toNatClampNeg) S1)) else (if x2 = 4 then (vp_in x1 9 ∧ (Q (S1.2 3 9 x1.toNatClampNeg) S1)) else (if x2 = 5 then (E_X4_claimOf 3 x1 S1 (fun v4 S3 => Q v4 S3)) else (if x2 = 6 then (E_X4_spoilOf 3 x1 S1 (fun v6 S5 => Q v6 S5)) else (if x2 = 7 then (E_X4_sayer 3 S1 (fun v8 S7 => E_X4_isKeptBy 3 v8 x1 S7 (fun v10 S9 => if v10 = 0 then (Q 0 S9) else (Q 1 S9)))) else (E_X6_wrong 1 S1 (fun v12 S11 => Q v12 S11)))))))))))
set_option maxRecDepth 20000 in
theorem c_X6_dishIs (l : Launch) (G : GX) (x1 : Int32) (x2 : Int32) (S : St) (Q : Int32 → St → Prop)  (hm : E_X6_dishIs x1 x2 S Q) : CTi l yX6_dishIs (Cond.code yX6_dishIs cX6_dishIs 3 (some .int) :: AW) { frames := 5, cells := 0, slots := 0, locals := 112 } G enC [.ref (adr G 0 0), .int x1, .int x2] S Q := by
  refine ct_start_i (by decide) enC_nd (Nat.le_of_ble_eq_true rfl) (fun E hG hl C hR => ?_)
  subst hG
  subst hl
  show CF E S 0 [(0, .ref (adr (vG E) 0 0)), (1, .int x1), (2, .int x2)] []
  unfold E_X6_dishIs at hm
  refine cf_aload_n C dX6_dishIs_0 rfl 0 rfl ?_
  refine gf_6_2 C inX6 okC_0 q278 dX6_dishIs_1 ?_
  refine cf_iload_n C dX6_dishIs_4 rfl 1 rfl ?_
  refine cf_callVi C [.int x1] [] okC_3.1 (ocell_4 okC_3.2.1) rfl q328 q329 (c_X4_has (vL E) (vG E) 3 x1 _ _ okC_3 hm) q327 q330 q68 md_X4_has (Nat.le_of_ble_eq_true rfl) (Nat.le_of_ble_eq_true rfl) rfl rfl (Nat.le_of_ble_eq_true rfl) dX6_dishIs_5 (fun v2 S1 hm => ?_)
  refine cf_if_ne C (tgt := 17) dX6_dishIs_8 (by decide) hm (fun hm => ?_) (fun hm => ?_)
  · refine cf_iload_n C dX6_dishIs_17 rfl 2 rfl ?_
    rcases ifc hm with ⟨hx, hm⟩ | ⟨h18_0, hm⟩
    · refine cf_tsIn C 0 dX6_dishIs_18 (by rw [hx]; rfl) (by decide) (by decide) (off := 46) (by rfl) (tgt := 64) (by decide) ?_
      refine cf_aload_n C dX6_dishIs_64 rfl 0 rfl ?_
      refine gf_6_2 C inX6 okC_0 q278 dX6_dishIs_65 ?_
      refine gf_4_5 C inX4 okC_3 q130 dX6_dishIs_68 ?_
      refine cf_iload_n C dX6_dishIs_71 rfl 1 rfl ?_
      refine cf_iald C (okA_of 5 okC_3 rfl (by decide) (by decide) (by decide)) dX6_dishIs_72 hm (fun hm => ?_)
      exact hR _ _ _ _ dX6_dishIs_73 hm
    rcases ifc hm with ⟨hx, hm⟩ | ⟨h18_1, hm⟩
    · refine cf_tsIn C 1 dX6_dishIs_18 (by rw [hx]; rfl) (by decide) (by decide) (off := 56) (by rfl) (tgt := 74) (by decide) ?_
      refine cf_aload_n C dX6_dishIs_74 rfl 0 rfl ?_
      refine gf_6_2 C inX6 okC_0 q278 dX6_dishIs_75 ?_
      refine gf_4_6 C inX4 okC_3 q133 dX6_dishIs_78 ?_
      refine cf_iload_n C dX6_dishIs_81 rfl 1 rfl ?_
      refine cf_iald C (okA_of 6 okC_3 rfl (by decide) (by decide) (by decide)) dX6_dishIs_82 hm (fun hm => ?_)
      exact hR _ _ _ _ dX6_dishIs_83 hm
    rcases ifc hm with ⟨hx, hm⟩ | ⟨h18_2, hm⟩
    · refine cf_tsIn C 2 dX6_dishIs_18 (by rw [hx]; rfl) (by decide) (by decide) (off := 66) (by rfl) (tgt := 84) (by decide) ?_
      refine cf_aload_n C dX6_dishIs_84 rfl 0 rfl ?_
      refine gf_6_2 C inX6 okC_0 q278 dX6_dishIs_85 ?_
      refine gf_4_7 C inX4 okC_3 q136 dX6_dishIs_88 ?_
      refine cf_iload_n C dX6_dishIs_91 rfl 1 rfl ?_
      refine cf_iald C (okA_of 7 okC_3 rfl (by decide) (by decide) (by decide)) dX6_dishIs_92 hm (fun hm => ?_)
      exact hR _ _ _ _ dX6_dishIs_93 hm
    rcases ifc hm with ⟨hx, hm⟩ | ⟨h18_3, hm⟩
    · refine cf_tsIn C 3 dX6_dishIs_18 (by rw [hx]; rfl) (by decide) (by decide) (off := 76) (by rfl) (tgt := 94) (by decide) ?_
      refine cf_aload_n C dX6_dishIs_94 rfl 0 rfl ?_
      refine gf_6_2 C inX6 okC_0 q278 dX6_dishIs_95 ?_
      refine gf_4_8 C inX4 okC_3 q138 dX6_dishIs_98 ?_
      refine cf_iload_n C dX6_dishIs_101 rfl 1 rfl ?_
      refine cf_iald C (okA_of 8 okC_3 rfl (by decide) (by decide) (by decide)) dX6_dishIs_102 hm (fun hm => ?_)
      exact hR _ _ _ _ dX6_dishIs_103 hm
    rcases ifc hm with ⟨hx, hm⟩ | ⟨h18_4, hm⟩
    · refine cf_tsIn C 4 dX6_dishIs_18 (by rw [hx]; rfl) (by decide) (by decide) (off := 86) (by rfl) (tgt := 104) (by decide) ?_
      refine cf_aload_n C dX6_dishIs_104 rfl 0 rfl ?_
      refine gf_6_2 C inX6 okC_0 q278 dX6_dishIs_105 ?_
      refine gf_4_9 C inX4 okC_3 q140 dX6_dishIs_108 ?_
      refine cf_iload_n C dX6_dishIs_111 rfl 1 rfl ?_
      refine cf_iald C (okA_of 9 okC_3 rfl (by decide) (by decide) (by decide)) dX6_dishIs_112 hm (fun hm => ?_)
      exact hR _ _ _ _ dX6_dishIs_113 hm
    rcases ifc hm with ⟨hx, hm⟩ | ⟨h18_5, hm⟩
    · refine cf_tsIn C 5 dX6_dishIs_18 (by rw [hx]; rfl) (by decide) (by decide) (off := 96) (by rfl) (tgt := 114) (by decide) ?_
      refine cf_aload_n C dX6_dishIs_114 rfl 0 rfl ?_
      refine gf_6_2 C inX6 okC_0 q278 dX6_dishIs_115 ?_
      refine cf_iload_n C dX6_dishIs_118 rfl 1 rfl ?_
      refine cf_callVi C [.int x1] [] okC_3.1 (ocell_4 okC_3.2.1) rfl q332 q333 (c_X4_claimOf (vL E) (vG E) 3 x1 _ _ okC_3 hm) q331 q334 q68 md_X4_claimOf (Nat.le_of_ble_eq_true rfl) (Nat.le_of_ble_eq_true rfl) rfl rfl (Nat.le_of_ble_eq_true rfl) dX6_dishIs_119 (fun v4 S3 hm => ?_)
      exact hR _ _ _ _ dX6_dishIs_122 hm
    rcases ifc hm with ⟨hx, hm⟩ | ⟨h18_6, hm⟩
    · refine cf_tsIn C 6 dX6_dishIs_18 (by rw [hx]; rfl) (by decide) (by decide) (off := 105) (by rfl) (tgt := 123) (by decide) ?_
      refine cf_aload_n C dX6_dishIs_123 rfl 0 rfl ?_
      refine gf_6_2 C inX6 okC_0 q278 dX6_dishIs_124 ?_
      refine cf_iload_n C dX6_dishIs_127 rfl 1 rfl ?_
      refine cf_callVi C [.int x1] [] okC_3.1 (ocell_4 okC_3.2.1) rfl q361 q362 (c_X4_spoilOf (vL E) (vG E) 3 x1 _ _ okC_3 hm) q360 q363 q68 md_X4_spoilOf (Nat.le_of_ble_eq_true rfl) (Nat.le_of_ble_eq_true rfl) rfl rfl (Nat.le_of_ble_eq_true rfl) dX6_dishIs_128 (fun v6 S5 hm => ?_)
      exact hR _ _ _ _ dX6_dishIs_131 hm
    rcases ifc hm with ⟨hx, hm⟩ | ⟨h18_7, hm⟩
    · refine cf_tsIn C 7 dX6_dishIs_18 (by rw [hx]; rfl) (by decide) (by decide) (off := 114) (by rfl) (tgt := 132) (by decide) ?_
      refine cf_aload_n C dX6_dishIs_132 rfl 0 rfl ?_
      refine gf_6_2 C inX6 okC_0 q278 dX6_dishIs_133 ?_
      refine cf_aload_n C dX6_dishIs_136 rfl 0 rfl ?_
      refine gf_6_2 C inX6 okC_0 q278 dX6_dishIs_137 ?_
      refine cf_callVi C [] [.ref (adr (vG E) 3 0)] okC_3.1 (ocell_4 okC_3.2.1) rfl q366 q367 (c_X4_sayer (vL E) (vG E) 3 _ _ okC_3 hm) q365 q368 q68 md_X4_sayer (Nat.le_of_ble_eq_true rfl) (Nat.le_of_ble_eq_true rfl) rfl rfl (Nat.le_of_ble_eq_true rfl) dX6_dishIs_140 (fun v8 S7 hm => ?_)
      refine cf_iload_n C dX6_dishIs_143 rfl 1 rfl ?_
      refine cf_callVi C [.int v8, .int x1] [] okC_3.1 (ocell_4 okC_3.2.1) rfl q371 q372 (c_X4_isKeptBy (vL E) (vG E) 3 v8 x1 _ _ okC_3 hm) q370 q373 q68 md_X4_isKeptBy (Nat.le_of_ble_eq_true rfl) (Nat.le_of_ble_eq_true rfl) rfl rfl (Nat.le_of_ble_eq_true rfl) dX6_dishIs_144 (fun v10 S9 hm => ?_)
      refine cf_if_eq C (tgt := 154) dX6_dishIs_147 (by decide) hm (fun hm => ?_) (fun hm => ?_)
      · refine cf_iconst C dX6_dishIs_154 (v := 0) rfl ?_
        exact hR _ _ _ _ dX6_dishIs_155 hm
      · refine cf_iconst C dX6_dishIs_150 (v := 1) rfl ?_
        refine cf_goto C (tgt := 155) dX6_dishIs_151 (by decide) ?_
        exact hR _ _ _ _ dX6_dishIs_155 hm
    refine cf_tsD C 8 [0, 1, 2, 3, 4, 5, 6, 7] dX6_dishIs_18 (by decide) (by decide +kernel) (List.forall_mem_cons.mpr ⟨lv_neT h18_0 rfl, (List.forall_mem_cons.mpr ⟨lv_neT h18_1 rfl, (List.forall_mem_cons.mpr ⟨lv_neT h18_2 rfl, (List.forall_mem_cons.mpr ⟨lv_neT h18_3 rfl, (List.forall_mem_cons.mpr ⟨lv_neT h18_4 rfl, (List.forall_mem_cons.mpr ⟨lv_neT h18_5 rfl, (List.forall_mem_cons.mpr ⟨lv_neT h18_6 rfl, (List.forall_mem_cons.mpr ⟨lv_neT h18_7 rfl, (fun _ h => absurd h List.not_mem_nil)⟩)⟩)⟩)⟩)⟩)⟩)⟩)⟩) (tgt := 156) (by decide) ?_
    refine cf_aload_n C dX6_dishIs_156 rfl 0 rfl ?_
    refine cf_iconst C dX6_dishIs_157 (v := 1) rfl ?_
    refine cf_callVi C [.int 1] [] okC_0.1 (ocell_6 okC_0.2.1) rfl q316 q0 (c_X6_wrong (vL E) (vG E) 1 _ _  hm) q314 q317 q65 md_X6_wrong (Nat.le_of_ble_eq_true rfl) (Nat.le_of_ble_eq_true rfl) rfl rfl (Nat.le_of_ble_eq_true rfl) dX6_dishIs_158 (fun v12 S11 hm => ?_)
    exact hR _ _ _ _ dX6_dishIs_161 hm
  · refine cf_aload_n C dX6_dishIs_11 rfl 0 rfl ?_
    refine cf_iconst C dX6_dishIs_12 (v := 1) rfl ?_
    refine cf_callVi C [.int 1] [] okC_0.1 (ocell_6 okC_0.2.1) rfl q316 q0 (c_X6_wrong (vL E) (vG E) 1 _ _  hm) q314 q317 q65 md_X6_wrong (Nat.le_of_ble_eq_true rfl) (Nat.le_of_ble_eq_true rfl) rfl rfl (Nat.le_of_ble_eq_true rfl) dX6_dishIs_13 (fun v14 S13 hm => ?_)
    exact hR _ _ _ _ dX6_dishIs_16 hm

def E_X6_become (x1 : Int32) (x2 : Int32) (S : St) (Q : Int32 → St → Prop) : Prop := E_X4_has 3 x1 S (fun v2 S1 => if v2 = 0 then (E_X6_wrong 1 S1 (fun v4 S3 => Q v4 S3)) else (E_X6_isKm x2 S1 (fun v6 S5 => if v6 = 0 then (E_X6_wrong 1 S5 (fun v11 S10 => Q v11 S10)) else (vp_in x1 9 ∧ (nmI (S5.2 3 5 x1.toNatClampNeg) (fun v7 => vp_in x1 9 ∧ (nmS (stR S5 3 5 (upd (S5.2 3 5) x1.toNatClampNeg (x2 / 10))) (fun S8 => vp_in x1 9 ∧ (nmS (stR S8 3 6 (upd (S8.2 3 6) x1.toNatClampNeg (x2 - x2 / 10 * 10))) (fun S9 => Q v7 S9))))))))))
set_option maxRecDepth 20000 in
theorem c_X6_become (l : Launch) (G : GX) (x1 : Int32) (x2 : Int32) (S : St) (Q : Int32 → St → Prop)  (hm : E_X6_become x1 x2 S Q) : CTi l yX6_become (Cond.code yX6_become cX6_become 4 (some .int) :: AW) { frames := 2, cells := 0, slots := 0, locals := 42 } G enC [.ref (adr G 0 0), .int x1, .int x2] S Q := by
  refine ct_start_i (by decide) enC_nd (Nat.le_of_ble_eq_true rfl) (fun E hG hl C hR => ?_)
  subst hG
  subst hl
  show CF E S 0 [(0, .ref (adr (vG E) 0 0)), (1, .int x1), (2, .int x2)] []
  unfold E_X6_become at hm
  refine cf_aload_n C dX6_become_0 rfl 0 rfl ?_
  refine gf_6_2 C inX6 okC_0 q278 dX6_become_1 ?_
  refine cf_iload_n C dX6_become_4 rfl 1 rfl ?_
  refine cf_callVi C [.int x1] [] okC_3.1 (ocell_4 okC_3.2.1) rfl q328 q329 (c_X4_has (vL E) (vG E) 3 x1 _ _ okC_3 hm) q327 q330 q68 md_X4_has (Nat.le_of_ble_eq_true rfl) (Nat.le_of_ble_eq_true rfl) rfl rfl (Nat.le_of_ble_eq_true rfl) dX6_become_5 (fun v2 S1 hm => ?_)
  refine cf_if_eq C (tgt := 18) dX6_become_8 (by decide) hm (fun hm => ?_) (fun hm => ?_)
  · refine cf_aload_n C dX6_become_18 rfl 0 rfl ?_
    refine cf_iconst C dX6_become_19 (v := 1) rfl ?_
    refine cf_callVi C [.int 1] [] okC_0.1 (ocell_6 okC_0.2.1) rfl q316 q0 (c_X6_wrong (vL E) (vG E) 1 _ _  hm) q314 q317 q65 md_X6_wrong (Nat.le_of_ble_eq_true rfl) (Nat.le_of_ble_eq_true rfl) rfl rfl (Nat.le_of_ble_eq_true rfl) dX6_become_20 (fun v4 S3 hm => ?_)
    exact hR _ _ _ _ dX6_become_23 hm
  · refine cf_iload_n C dX6_become_11 rfl 2 rfl ?_
    refine cf_callSi C [.int x2] [] q309 (c_X6_isKm (vL E) (vG E) x2 _ _  hm) q308 q310 q65 md_X6_isKm (Nat.le_of_ble_eq_true rfl) (Nat.le_of_ble_eq_true rfl) rfl rfl (Nat.le_of_ble_eq_true rfl) dX6_become_12 (fun v6 S5 hm => ?_)
    refine cf_if_ne C (tgt := 24) dX6_become_15 (by decide) hm (fun hm => ?_) (fun hm => ?_)
    · refine cf_aload_n C dX6_become_24 rfl 0 rfl ?_
      refine gf_6_2 C inX6 okC_0 q278 dX6_become_25 ?_
      refine gf_4_5 C inX4 okC_3 q130 dX6_become_28 ?_
      refine cf_iload_n C dX6_become_31 rfl 1 rfl ?_
      refine cf_iald C (okA_of 5 okC_3 rfl (by decide) (by decide) (by decide)) dX6_become_32 hm (fun hm => ?_)
      refine cf_nmI hm (fun v7 hm => ?_)
      refine cf_istore_n C (L1 := [(3, .int v7), (0, .ref (adr (vG E) 0 0)), (1, .int x1), (2, .int x2)]) dX6_become_33 rfl (by decide) rfl ?_
      refine cf_aload_n C dX6_become_34 rfl 1 rfl ?_
      refine gf_6_2 C inX6 okC_0 q278 dX6_become_35 ?_
      refine gf_4_5 C inX4 okC_3 q130 dX6_become_38 ?_
      refine cf_iload_n C dX6_become_41 rfl 2 rfl ?_
      refine cf_iload_n C dX6_become_42 rfl 3 rfl ?_
      refine cf_bipush C dX6_become_43 (v := 10) rfl ?_
      refine cf_idivC C dX6_become_45 (by decide) ?_
      refine cf_iast C (okA_of 5 okC_3 rfl (by decide) (by decide) (by decide)) dX6_become_46 hm (fun hm => ?_)
      refine cf_nmS hm (fun S8 hm => ?_)
      refine cf_aload_n C dX6_become_47 rfl 1 rfl ?_
      refine gf_6_2 C inX6 okC_0 q278 dX6_become_48 ?_
      refine gf_4_6 C inX4 okC_3 q133 dX6_become_51 ?_
      refine cf_iload_n C dX6_become_54 rfl 2 rfl ?_
      refine cf_iload_n C dX6_become_55 rfl 3 rfl ?_
      refine cf_bipush C dX6_become_56 (v := 10) rfl ?_
      refine cf_iremC C dX6_become_58 (by decide) ?_
      refine cf_iast C (okA_of 6 okC_3 rfl (by decide) (by decide) (by decide)) dX6_become_59 hm (fun hm => ?_)
      refine cf_nmS hm (fun S9 hm => ?_)
      refine cf_iload_n C dX6_become_60 rfl 0 rfl ?_
      exact hR _ _ _ _ dX6_become_61 hm
    · refine cf_aload_n C dX6_become_18 rfl 0 rfl ?_
      refine cf_iconst C dX6_become_19 (v := 1) rfl ?_
      refine cf_callVi C [.int 1] [] okC_0.1 (ocell_6 okC_0.2.1) rfl q316 q0 (c_X6_wrong (vL E) (vG E) 1 _ _  hm) q314 q317 q65 md_X6_wrong (Nat.le_of_ble_eq_true rfl) (Nat.le_of_ble_eq_true rfl) rfl rfl (Nat.le_of_ble_eq_true rfl) dX6_become_20 (fun v11 S10 hm => ?_)
      exact hR _ _ _ _ dX6_become_23 hm

def L_X6_as_40    (Q : Int32 → St → Prop) : Nat → Int32 → Int32 → Int32 → Int32 → St → Prop
  | 0 => fun _ _ _ _ _ => False
  | n + 1 => fun x1 x2 x3 x4 S => if 7 ≤ x4 then (E_X6_wrong 5 S (fun v9 S8 => Q v9 S8)) else (if x3 < 0 then (E_X6_wrong 5 S (fun v11 S10 => Q v11 S10)) else (if x3 = x2 then (vp_in x1 9 ∧ (Q (S.2 3 6 x1.toNatClampNeg) S)) else (vp_in x3 7 ∧ (nmI (sABV x3.toNatClampNeg) (fun v12 => nmI (x4 + 1) (fun v13 => L_X6_as_40 Q n x1 x2 v12 v13 S))))))
set_option maxRecDepth 20000 in
theorem w_L_X6_as_40 {E : EV} {Q : Int32 → St → Prop}   (C : CX E cX6_as RX6 5 enC 1 22)   (hR : RTi E cX6_as Q) : ∀ (n : Nat) (x1 : Int32) (x2 : Int32) (x3 : Int32) (x4 : Int32) (S : St), L_X6_as_40 Q n x1 x2 x3 x4 S → CF E S 40 [(0, .ref (adr (vG E) 0 0)), (1, .int x1), (2, .int x2), (3, .int x3), (4, .int x4)] [] := by
  intro n
  induction n with
  | zero =>
    intro x1 x2 x3 x4 S hm
    exact hm.elim
  | succ n ih =>
    intro x1 x2 x3 x4 S hm
    unfold L_X6_as_40 at hm
    refine cf_iload C dX6_as_40 4 rfl ?_
    refine cf_bipush C dX6_as_42 (v := 7) rfl ?_
    refine cf_icmp_ge C (tgt := 78) dX6_as_44 (by decide) hm (fun hm => ?_) (fun hm => ?_)
    · refine cf_aload_n C dX6_as_78 rfl 0 rfl ?_
      refine cf_iconst C dX6_as_79 (v := 5) rfl ?_
      refine cf_callVi C [.int 5] [] okC_0.1 (ocell_6 okC_0.2.1) rfl q316 q0 (c_X6_wrong (vL E) (vG E) 5 _ _  hm) q314 q317 q65 md_X6_wrong (Nat.le_of_ble_eq_true rfl) (Nat.le_of_ble_eq_true rfl) rfl rfl (Nat.le_of_ble_eq_true rfl) dX6_as_80 (fun v9 S8 hm => ?_)
      exact hR _ _ _ _ dX6_as_83 hm
    · refine cf_iload_n C dX6_as_47 rfl 3 rfl ?_
      refine cf_if_lt C (tgt := 78) dX6_as_48 (by decide) hm (fun hm => ?_) (fun hm => ?_)
      · refine cf_aload_n C dX6_as_78 rfl 0 rfl ?_
        refine cf_iconst C dX6_as_79 (v := 5) rfl ?_
        refine cf_callVi C [.int 5] [] okC_0.1 (ocell_6 okC_0.2.1) rfl q316 q0 (c_X6_wrong (vL E) (vG E) 5 _ _  hm) q314 q317 q65 md_X6_wrong (Nat.le_of_ble_eq_true rfl) (Nat.le_of_ble_eq_true rfl) rfl rfl (Nat.le_of_ble_eq_true rfl) dX6_as_80 (fun v11 S10 hm => ?_)
        exact hR _ _ _ _ dX6_as_83 hm
      · refine cf_iload_n C dX6_as_51 rfl 3 rfl ?_
        refine cf_iload_n C dX6_as_52 rfl 2 rfl ?_
        refine cf_icmp_ne C (tgt := 66) dX6_as_53 (by decide) hm (fun hm => ?_) (fun hm => ?_)
        · refine cf_gs_ABOVE C q382 dX6_as_66 ?_
          refine cf_iload_n C dX6_as_69 rfl 3 rfl ?_
          refine cf_sl_ABOVE C dX6_as_70 hm (fun hm => ?_)
          refine cf_nmI hm (fun v12 hm => ?_)
          refine cf_istore_n C (L1 := [(3, .int v12), (0, .ref (adr (vG E) 0 0)), (1, .int x1), (2, .int x2), (4, .int x4)]) dX6_as_71 rfl (by decide) rfl ?_
          refine cf_iincN C (L1 := fun v13 => [(4, .int v13), (3, .int v12), (0, .ref (adr (vG E) 0 0)), (1, .int x1), (2, .int x2)]) dX6_as_72 4 rfl rfl (by decide) (fun _ => rfl) hm (fun v13 hm => ?_)
          refine cf_goto C (tgt := 40) dX6_as_75 (by decide) ?_
          refine cf_sub C [2, 3, 4, 1, 0] rfl ?_
          exact ih x1 x2 v12 v13 _ hm
        · refine cf_aload_n C dX6_as_56 rfl 0 rfl ?_
          refine gf_6_2 C inX6 okC_0 q278 dX6_as_57 ?_
          refine gf_4_6 C inX4 okC_3 q133 dX6_as_60 ?_
          refine cf_iload_n C dX6_as_63 rfl 1 rfl ?_
          refine cf_iald C (okA_of 6 okC_3 rfl (by decide) (by decide) (by decide)) dX6_as_64 hm (fun hm => ?_)
          exact hR _ _ _ _ dX6_as_65 hm
def E_X6_as (x1 : Int32) (x2 : Int32) (S : St) (Q : Int32 → St → Prop) : Prop := E_X4_has 3 x1 S (fun v2 S1 => if v2 = 0 then (E_X6_wrong 1 S1 (fun v4 S3 => Q v4 S3)) else (E_X6_within x2 0 6 S1 (fun v6 S5 => if v6 = 0 then (E_X6_wrong 1 S5 (fun v15 S14 => Q v15 S14)) else (vp_in x1 9 ∧ (nmI (S5.2 3 5 x1.toNatClampNeg) (fun v7 => ∃ k, L_X6_as_40 Q k x1 x2 v7 0 S5))))))
set_option maxRecDepth 20000 in
theorem c_X6_as (l : Launch) (G : GX) (x1 : Int32) (x2 : Int32) (S : St) (Q : Int32 → St → Prop)  (hm : E_X6_as x1 x2 S Q) : CTi l yX6_as (Cond.code yX6_as cX6_as 5 (some .int) :: AW) { frames := 1, cells := 0, slots := 0, locals := 22 } G enC [.ref (adr G 0 0), .int x1, .int x2] S Q := by
  refine ct_start_i (by decide) enC_nd (Nat.le_of_ble_eq_true rfl) (fun E hG hl C hR => ?_)
  subst hG
  subst hl
  show CF E S 0 [(0, .ref (adr (vG E) 0 0)), (1, .int x1), (2, .int x2)] []
  unfold E_X6_as at hm
  refine cf_aload_n C dX6_as_0 rfl 0 rfl ?_
  refine gf_6_2 C inX6 okC_0 q278 dX6_as_1 ?_
  refine cf_iload_n C dX6_as_4 rfl 1 rfl ?_
  refine cf_callVi C [.int x1] [] okC_3.1 (ocell_4 okC_3.2.1) rfl q328 q329 (c_X4_has (vL E) (vG E) 3 x1 _ _ okC_3 hm) q327 q330 q68 md_X4_has (Nat.le_of_ble_eq_true rfl) (Nat.le_of_ble_eq_true rfl) rfl rfl (Nat.le_of_ble_eq_true rfl) dX6_as_5 (fun v2 S1 hm => ?_)
  refine cf_if_eq C (tgt := 21) dX6_as_8 (by decide) hm (fun hm => ?_) (fun hm => ?_)
  · refine cf_aload_n C dX6_as_21 rfl 0 rfl ?_
    refine cf_iconst C dX6_as_22 (v := 1) rfl ?_
    refine cf_callVi C [.int 1] [] okC_0.1 (ocell_6 okC_0.2.1) rfl q316 q0 (c_X6_wrong (vL E) (vG E) 1 _ _  hm) q314 q317 q65 md_X6_wrong (Nat.le_of_ble_eq_true rfl) (Nat.le_of_ble_eq_true rfl) rfl rfl (Nat.le_of_ble_eq_true rfl) dX6_as_23 (fun v4 S3 hm => ?_)
    exact hR _ _ _ _ dX6_as_26 hm
  · refine cf_iload_n C dX6_as_11 rfl 2 rfl ?_
    refine cf_iconst C dX6_as_12 (v := 0) rfl ?_
    refine cf_bipush C dX6_as_13 (v := 6) rfl ?_
    refine cf_callSi C [.int x2, .int 0, .int 6] [] q312 (c_X6_within (vL E) (vG E) x2 0 6 _ _  hm) q311 q313 q65 md_X6_within (Nat.le_of_ble_eq_true rfl) (Nat.le_of_ble_eq_true rfl) rfl rfl (Nat.le_of_ble_eq_true rfl) dX6_as_15 (fun v6 S5 hm => ?_)
    refine cf_if_ne C (tgt := 27) dX6_as_18 (by decide) hm (fun hm => ?_) (fun hm => ?_)
    · refine cf_aload_n C dX6_as_27 rfl 0 rfl ?_
      refine gf_6_2 C inX6 okC_0 q278 dX6_as_28 ?_
      refine gf_4_5 C inX4 okC_3 q130 dX6_as_31 ?_
      refine cf_iload_n C dX6_as_34 rfl 1 rfl ?_
      refine cf_iald C (okA_of 5 okC_3 rfl (by decide) (by decide) (by decide)) dX6_as_35 hm (fun hm => ?_)
      refine cf_nmI hm (fun v7 hm => ?_)
      refine cf_istore_n C (L1 := [(3, .int v7), (0, .ref (adr (vG E) 0 0)), (1, .int x1), (2, .int x2)]) dX6_as_36 rfl (by decide) rfl ?_
      refine cf_iconst C dX6_as_37 (v := 0) rfl ?_
      refine cf_istore C (L1 := [(4, .int 0), (3, .int v7), (0, .ref (adr (vG E) 0 0)), (1, .int x1), (2, .int x2)]) dX6_as_38 (by decide) rfl ?_
      refine cf_sub C [2, 3, 4, 1, 0] rfl ?_
      obtain ⟨k, hm⟩ := hm
      exact w_L_X6_as_40 C hR k x1 x2 v7 0 _ hm
    · refine cf_aload_n C dX6_as_21 rfl 0 rfl ?_
      refine cf_iconst C dX6_as_22 (v := 1) rfl ?_
      refine cf_callVi C [.int 1] [] okC_0.1 (ocell_6 okC_0.2.1) rfl q316 q0 (c_X6_wrong (vL E) (vG E) 1 _ _  hm) q314 q317 q65 md_X6_wrong (Nat.le_of_ble_eq_true rfl) (Nat.le_of_ble_eq_true rfl) rfl rfl (Nat.le_of_ble_eq_true rfl) dX6_as_23 (fun v15 S14 hm => ?_)
      exact hR _ _ _ _ dX6_as_26 hm

def E_X6_serve (x1 : Int32) (x2 : Int32) (S : St) (Q : Int32 → St → Prop) : Prop := E_X4_has 3 x1 S (fun v2 S1 => if v2 = 0 then (E_X6_wrong 1 S1 (fun v4 S3 => Q v4 S3)) else (E_X6_within x2 0 99 S1 (fun v6 S5 => if v6 = 0 then (E_X6_wrong 1 S5 (fun v10 S9 => Q v10 S9)) else (vp_in x1 9 ∧ (nmI (S5.2 3 7 x1.toNatClampNeg) (fun v7 => vp_in x1 9 ∧ (nmS (stR S5 3 7 (upd (S5.2 3 7) x1.toNatClampNeg x2)) (fun S8 => Q v7 S8))))))))
set_option maxRecDepth 20000 in
theorem c_X6_serve (l : Launch) (G : GX) (x1 : Int32) (x2 : Int32) (S : St) (Q : Int32 → St → Prop)  (hm : E_X6_serve x1 x2 S Q) : CTi l yX6_serve (Cond.code yX6_serve cX6_serve 4 (some .int) :: AW) { frames := 1, cells := 0, slots := 0, locals := 22 } G enC [.ref (adr G 0 0), .int x1, .int x2] S Q := by
  refine ct_start_i (by decide) enC_nd (Nat.le_of_ble_eq_true rfl) (fun E hG hl C hR => ?_)
  subst hG
  subst hl
  show CF E S 0 [(0, .ref (adr (vG E) 0 0)), (1, .int x1), (2, .int x2)] []
  unfold E_X6_serve at hm
  refine cf_aload_n C dX6_serve_0 rfl 0 rfl ?_
  refine gf_6_2 C inX6 okC_0 q278 dX6_serve_1 ?_
  refine cf_iload_n C dX6_serve_4 rfl 1 rfl ?_
  refine cf_callVi C [.int x1] [] okC_3.1 (ocell_4 okC_3.2.1) rfl q328 q329 (c_X4_has (vL E) (vG E) 3 x1 _ _ okC_3 hm) q327 q330 q68 md_X4_has (Nat.le_of_ble_eq_true rfl) (Nat.le_of_ble_eq_true rfl) rfl rfl (Nat.le_of_ble_eq_true rfl) dX6_serve_5 (fun v2 S1 hm => ?_)
  refine cf_if_eq C (tgt := 21) dX6_serve_8 (by decide) hm (fun hm => ?_) (fun hm => ?_)
  · refine cf_aload_n C dX6_serve_21 rfl 0 rfl ?_
    refine cf_iconst C dX6_serve_22 (v := 1) rfl ?_
    refine cf_callVi C [.int 1] [] okC_0.1 (ocell_6 okC_0.2.1) rfl q316 q0 (c_X6_wrong (vL E) (vG E) 1 _ _  hm) q314 q317 q65 md_X6_wrong (Nat.le_of_ble_eq_true rfl) (Nat.le_of_ble_eq_true rfl) rfl rfl (Nat.le_of_ble_eq_true rfl) dX6_serve_23 (fun v4 S3 hm => ?_)
    exact hR _ _ _ _ dX6_serve_26 hm
  · refine cf_iload_n C dX6_serve_11 rfl 2 rfl ?_
    refine cf_iconst C dX6_serve_12 (v := 0) rfl ?_
    refine cf_bipush C dX6_serve_13 (v := 99) rfl ?_
    refine cf_callSi C [.int x2, .int 0, .int 99] [] q312 (c_X6_within (vL E) (vG E) x2 0 99 _ _  hm) q311 q313 q65 md_X6_within (Nat.le_of_ble_eq_true rfl) (Nat.le_of_ble_eq_true rfl) rfl rfl (Nat.le_of_ble_eq_true rfl) dX6_serve_15 (fun v6 S5 hm => ?_)
    refine cf_if_ne C (tgt := 27) dX6_serve_18 (by decide) hm (fun hm => ?_) (fun hm => ?_)
    · refine cf_aload_n C dX6_serve_27 rfl 0 rfl ?_
      refine gf_6_2 C inX6 okC_0 q278 dX6_serve_28 ?_
      refine gf_4_7 C inX4 okC_3 q136 dX6_serve_31 ?_
      refine cf_iload_n C dX6_serve_34 rfl 1 rfl ?_
      refine cf_iald C (okA_of 7 okC_3 rfl (by decide) (by decide) (by decide)) dX6_serve_35 hm (fun hm => ?_)
      refine cf_nmI hm (fun v7 hm => ?_)
      refine cf_istore_n C (L1 := [(3, .int v7), (0, .ref (adr (vG E) 0 0)), (1, .int x1), (2, .int x2)]) dX6_serve_36 rfl (by decide) rfl ?_
      refine cf_aload_n C dX6_serve_37 rfl 1 rfl ?_
      refine gf_6_2 C inX6 okC_0 q278 dX6_serve_38 ?_
      refine gf_4_7 C inX4 okC_3 q136 dX6_serve_41 ?_
      refine cf_iload_n C dX6_serve_44 rfl 2 rfl ?_
      refine cf_iload_n C dX6_serve_45 rfl 3 rfl ?_
      refine cf_iast C (okA_of 7 okC_3 rfl (by decide) (by decide) (by decide)) dX6_serve_46 hm (fun hm => ?_)
      refine cf_nmS hm (fun S8 hm => ?_)
      refine cf_iload_n C dX6_serve_47 rfl 0 rfl ?_
      exact hR _ _ _ _ dX6_serve_48 hm
    · refine cf_aload_n C dX6_serve_21 rfl 0 rfl ?_
      refine cf_iconst C dX6_serve_22 (v := 1) rfl ?_
      refine cf_callVi C [.int 1] [] okC_0.1 (ocell_6 okC_0.2.1) rfl q316 q0 (c_X6_wrong (vL E) (vG E) 1 _ _  hm) q314 q317 q65 md_X6_wrong (Nat.le_of_ble_eq_true rfl) (Nat.le_of_ble_eq_true rfl) rfl rfl (Nat.le_of_ble_eq_true rfl) dX6_serve_23 (fun v10 S9 hm => ?_)
      exact hR _ _ _ _ dX6_serve_26 hm
