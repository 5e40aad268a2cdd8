def J_X7_move_106    (Q : Int32 → St → Prop)  (S : St) : Prop := E_X7_error 1 S (fun v10 S9 => Q v10 S9)
set_option maxRecDepth 20000 in
theorem w_J_X7_move_106 {E : EV} {Q : Int32 → St → Prop}   (C : CX E cX7_move RX7 7 enM 2 42)   (hR : RTi E cX7_move Q) : ∀  (S : St), J_X7_move_106 Q  S → CF E S 106 [(0, .ref (adr (vG E) 17 0))] [] := by
  intro S hm
  unfold J_X7_move_106 at hm
  refine cf_aload_n C dX7_move_106 rfl 0 rfl ?_
  refine cf_iconst C dX7_move_107 (v := 1) rfl ?_
  refine cf_callVi C [.int 1] [] okM_17.1 (ocell_7 okM_17.2.1) rfl q771 q19 (c_X7_error (vL E) (vG E) 1 _ _  hm) q769 q772 q72 md_X7_error (Nat.le_of_ble_eq_true rfl) (Nat.le_of_ble_eq_true rfl) rfl rfl (Nat.le_of_ble_eq_true rfl) dX7_move_108 (fun v10 S9 hm => ?_)
  exact hR _ _ _ _ dX7_move_111 hm
def L_X7_move_152    (Q : Int32 → St → Prop) : Nat → Int32 → Int32 → Int32 → Int32 → St → Prop
  | 0 => fun _ _ _ _ _ => False
  | n + 1 => fun x3 x4 x5 x6 S => if x5 ≤ x6 then (Q x5 S) else (vp_in x6 24 ∧ (vp_in (((24 * x3) + x4) + x6) 96 ∧ (nmS (stR S 17 20 (upd (S.2 17 20) (((24 * x3) + x4) + x6).toNatClampNeg (S.2 17 21 x6.toNatClampNeg))) (fun S11 => nmI (x6 + 1) (fun v12 => L_X7_move_152 Q n x3 x4 x5 v12 S11)))))
set_option maxRecDepth 20000 in
theorem w_L_X7_move_152 {E : EV} {Q : Int32 → St → Prop}   (C : CX E cX7_move RX7 7 enM 2 42)   (hR : RTi E cX7_move Q) : ∀ (n : Nat) (x3 : Int32) (x4 : Int32) (x5 : Int32) (x6 : Int32) (S : St), L_X7_move_152 Q n x3 x4 x5 x6 S → CF E S 152 [(0, .ref (adr (vG E) 17 0)), (3, .int x3), (4, .int x4), (5, .int x5), (6, .int x6)] [] := by
  intro n
  induction n with
  | zero =>
    intro x3 x4 x5 x6 S hm
    exact hm.elim
  | succ n ih =>
    intro x3 x4 x5 x6 S hm
    unfold L_X7_move_152 at hm
    refine cf_iload C dX7_move_152 4 rfl ?_
    refine cf_iload C dX7_move_154 3 rfl ?_
    refine cf_icmp_ge C (tgt := 187) dX7_move_156 (by decide) hm (fun hm => ?_) (fun hm => ?_)
    · refine cf_iload C dX7_move_187 3 rfl ?_
      exact hR _ _ _ _ dX7_move_189 hm
    · refine cf_aload_n C dX7_move_159 rfl 0 rfl ?_
      refine gf_7_20 C inX7 okM_17 q714 dX7_move_160 ?_
      refine cf_bipush C dX7_move_163 (v := 24) rfl ?_
      refine cf_iload_n C dX7_move_165 rfl 1 rfl ?_
      refine cf_imul C dX7_move_166 ?_
      refine cf_iload C dX7_move_167 2 rfl ?_
      refine cf_iadd C dX7_move_169 ?_
      refine cf_iload C dX7_move_170 4 rfl ?_
      refine cf_iadd C dX7_move_172 ?_
      refine cf_aload_n C dX7_move_173 rfl 0 rfl ?_
      refine gf_7_21 C inX7 okM_17 q715 dX7_move_174 ?_
      refine cf_iload C dX7_move_177 4 rfl ?_
      refine cf_iald C (okA_of 21 okM_17 rfl (by decide) (by decide) (by decide)) dX7_move_179 hm (fun hm => ?_)
      refine cf_iast C (okA_of 20 okM_17 rfl (by decide) (by decide) (by decide)) dX7_move_180 hm (fun hm => ?_)
      refine cf_nmS hm (fun S11 hm => ?_)
      refine cf_iincN C (L1 := fun v12 => [(6, .int v12), (0, .ref (adr (vG E) 17 0)), (3, .int x3), (4, .int x4), (5, .int x5)]) dX7_move_181 4 rfl rfl (by decide) (fun _ => rfl) hm (fun v12 hm => ?_)
      refine cf_goto C (tgt := 152) dX7_move_184 (by decide) ?_
      refine cf_sub C [1, 2, 3, 4, 0] rfl ?_
      exact ih x3 x4 x5 v12 _ hm
def L_X7_move_115    (Q : Int32 → St → Prop) : Nat → Int32 → Int32 → Int32 → Int32 → Int32 → Int32 → St → Prop
  | 0 => fun _ _ _ _ _ _ _ => False
  | n + 1 => fun x1 x2 x3 x4 x5 x6 S => if x5 ≤ x6 then (∃ k, L_X7_move_152 Q k x3 x4 x5 0 S) else (vp_in (((24 * x1) + x2) + x6) 96 ∧ (vp_in x6 24 ∧ (nmS (stR S 17 21 (upd (S.2 17 21) x6.toNatClampNeg (S.2 17 20 (((24 * x1) + x2) + x6).toNatClampNeg))) (fun S13 => nmI (x6 + 1) (fun v14 => L_X7_move_115 Q n x1 x2 x3 x4 x5 v14 S13)))))
set_option maxRecDepth 20000 in
theorem w_L_X7_move_115 {E : EV} {Q : Int32 → St → Prop}   (C : CX E cX7_move RX7 7 enM 2 42)   (hR : RTi E cX7_move Q) : ∀ (n : Nat) (x1 : Int32) (x2 : Int32) (x3 : Int32) (x4 : Int32) (x5 : Int32) (x6 : Int32) (S : St), L_X7_move_115 Q n x1 x2 x3 x4 x5 x6 S → CF E S 115 [(0, .ref (adr (vG E) 17 0)), (1, .int x1), (2, .int x2), (3, .int x3), (4, .int x4), (5, .int x5), (6, .int x6)] [] := by
  intro n
  induction n with
  | zero =>
    intro x1 x2 x3 x4 x5 x6 S hm
    exact hm.elim
  | succ n ih =>
    intro x1 x2 x3 x4 x5 x6 S hm
    unfold L_X7_move_115 at hm
    refine cf_iload C dX7_move_115 6 rfl ?_
    refine cf_iload C dX7_move_117 5 rfl ?_
    refine cf_icmp_ge C (tgt := 149) dX7_move_119 (by decide) hm (fun hm => ?_) (fun hm => ?_)
    · refine cf_iconst C dX7_move_149 (v := 0) rfl ?_
      refine cf_istore C (L1 := [(6, .int 0), (0, .ref (adr (vG E) 17 0)), (1, .int x1), (2, .int x2), (3, .int x3), (4, .int x4), (5, .int x5)]) dX7_move_150 (by decide) rfl ?_
      refine cf_sub C [1, 4, 5, 6, 0] rfl ?_
      obtain ⟨k, hm⟩ := hm
      exact w_L_X7_move_152 C hR k x3 x4 x5 0 _ hm
    · refine cf_aload_n C dX7_move_122 rfl 0 rfl ?_
      refine gf_7_21 C inX7 okM_17 q715 dX7_move_123 ?_
      refine cf_iload C dX7_move_126 6 rfl ?_
      refine cf_aload_n C dX7_move_128 rfl 0 rfl ?_
      refine gf_7_20 C inX7 okM_17 q714 dX7_move_129 ?_
      refine cf_bipush C dX7_move_132 (v := 24) rfl ?_
      refine cf_iload_n C dX7_move_134 rfl 1 rfl ?_
      refine cf_imul C dX7_move_135 ?_
      refine cf_iload_n C dX7_move_136 rfl 2 rfl ?_
      refine cf_iadd C dX7_move_137 ?_
      refine cf_iload C dX7_move_138 6 rfl ?_
      refine cf_iadd C dX7_move_140 ?_
      refine cf_iald C (okA_of 20 okM_17 rfl (by decide) (by decide) (by decide)) dX7_move_141 hm (fun hm => ?_)
      refine cf_iast C (okA_of 21 okM_17 rfl (by decide) (by decide) (by decide)) dX7_move_142 hm (fun hm => ?_)
      refine cf_nmS hm (fun S13 hm => ?_)
      refine cf_iincN C (L1 := fun v14 => [(6, .int v14), (0, .ref (adr (vG E) 17 0)), (1, .int x1), (2, .int x2), (3, .int x3), (4, .int x4), (5, .int x5)]) dX7_move_143 6 rfl rfl (by decide) (fun _ => rfl) hm (fun v14 hm => ?_)
      refine cf_goto C (tgt := 115) dX7_move_146 (by decide) ?_
      refine cf_sub C [1, 2, 3, 4, 5, 6, 0] rfl ?_
      exact ih x1 x2 x3 x4 x5 v14 _ hm
def E_X7_move (x1 : Int32) (x2 : Int32) (x3 : Int32) (x4 : Int32) (x5 : Int32) (S : St) (Q : Int32 → St → Prop) : Prop := E_X7_isSheet x1 S (fun v2 S1 => if v2 = 0 then (E_X7_error 1 S1 (fun v4 S3 => Q v4 S3)) else (E_X7_isSheet x3 S1 (fun v6 S5 => if v6 = 0 then (E_X7_error 1 S5 (fun v20 S19 => Q v20 S19)) else (vp_in x1 4 ∧ (if (S5.2 17 18 x1.toNatClampNeg) = 0 then (E_X7_error 2 S5 (fun v8 S7 => Q v8 S7)) else (vp_in x3 4 ∧ (if (S5.2 17 18 x3.toNatClampNeg) = 0 then (E_X7_error 2 S5 (fun v18 S17 => Q v18 S17)) else (vp_in x1 4 ∧ (vp_in x3 4 ∧ (if (S5.2 17 18 x1.toNatClampNeg) = (S5.2 17 18 x3.toNatClampNeg) then (if x5 < 0 then (J_X7_move_106 Q S5) else (if x2 < 0 then (J_X7_move_106 Q S5) else (if x4 < 0 then (J_X7_move_106 Q S5) else (vp_in x1 4 ∧ (if ((S5.2 17 19 x1.toNatClampNeg) - x5) < x2 then (J_X7_move_106 Q S5) else (vp_in x3 4 ∧ (if x4 ≤ ((S5.2 17 19 x3.toNatClampNeg) - x5) then (∃ k, L_X7_move_115 Q k x1 x2 x3 x4 x5 0 S5) else (J_X7_move_106 Q S5)))))))) else (E_X7_error 5 S5 (fun v16 S15 => Q v16 S15))))))))))))
set_option maxRecDepth 20000 in
theorem c_X7_move (l : Launch) (G : GX) (x1 : Int32) (x2 : Int32) (x3 : Int32) (x4 : Int32) (x5 : Int32) (S : St) (Q : Int32 → St → Prop)  (hm : E_X7_move x1 x2 x3 x4 x5 S Q) : CTi l yX7_move (Cond.code yX7_move cX7_move 7 (some .int) :: AW) { frames := 2, cells := 0, slots := 0, locals := 42 } G enM [.ref (adr G 17 0), .int x1, .int x2, .int x3, .int x4, .int x5] S Q := by
  refine ct_start_i (by decide) enM_nd (Nat.le_of_ble_eq_true rfl) (fun E hG hl C hR => ?_)
  subst hG
  subst hl
  show CF E S 0 [(0, .ref (adr (vG E) 17 0)), (1, .int x1), (2, .int x2), (3, .int x3), (4, .int x4), (5, .int x5)] []
  unfold E_X7_move at hm
  refine cf_iload_n C dX7_move_0 rfl 1 rfl ?_
  refine cf_callSi C [.int x1] [] q1029 (c_X7_isSheet (vL E) (vG E) x1 _ _  hm) q1028 q1030 q72 md_X7_isSheet (Nat.le_of_ble_eq_true rfl) (Nat.le_of_ble_eq_true rfl) rfl rfl (Nat.le_of_ble_eq_true rfl) dX7_move_1 (fun v2 S1 hm => ?_)
  refine cf_if_eq C (tgt := 14) dX7_move_4 (by decide) hm (fun hm => ?_) (fun hm => ?_)
  · refine cf_aload_n C dX7_move_14 rfl 0 rfl ?_
    refine cf_iconst C dX7_move_15 (v := 1) rfl ?_
    refine cf_callVi C [.int 1] [] okM_17.1 (ocell_7 okM_17.2.1) rfl q771 q19 (c_X7_error (vL E) (vG E) 1 _ _  hm) q769 q772 q72 md_X7_error (Nat.le_of_ble_eq_true rfl) (Nat.le_of_ble_eq_true rfl) rfl rfl (Nat.le_of_ble_eq_true rfl) dX7_move_16 (fun v4 S3 hm => ?_)
    exact hR _ _ _ _ dX7_move_19 hm
  · refine cf_iload_n C dX7_move_7 rfl 3 rfl ?_
    refine cf_callSi C [.int x3] [] q1029 (c_X7_isSheet (vL E) (vG E) x3 _ _  hm) q1028 q1030 q72 md_X7_isSheet (Nat.le_of_ble_eq_true rfl) (Nat.le_of_ble_eq_true rfl) rfl rfl (Nat.le_of_ble_eq_true rfl) dX7_move_8 (fun v6 S5 hm => ?_)
    refine cf_if_ne C (tgt := 20) dX7_move_11 (by decide) hm (fun hm => ?_) (fun hm => ?_)
    · refine cf_aload_n C dX7_move_20 rfl 0 rfl ?_
      refine gf_7_18 C inX7 okM_17 q712 dX7_move_21 ?_
      refine cf_iload_n C dX7_move_24 rfl 1 rfl ?_
      refine cf_iald C (okA_of 18 okM_17 rfl (by decide) (by decide) (by decide)) dX7_move_25 hm (fun hm => ?_)
      refine cf_if_eq C (tgt := 38) dX7_move_26 (by decide) hm (fun hm => ?_) (fun hm => ?_)
      · refine cf_aload_n C dX7_move_38 rfl 0 rfl ?_
        refine cf_iconst C dX7_move_39 (v := 2) rfl ?_
        refine cf_callVi C [.int 2] [] okM_17.1 (ocell_7 okM_17.2.1) rfl q771 q19 (c_X7_error (vL E) (vG E) 2 _ _  hm) q769 q772 q72 md_X7_error (Nat.le_of_ble_eq_true rfl) (Nat.le_of_ble_eq_true rfl) rfl rfl (Nat.le_of_ble_eq_true rfl) dX7_move_40 (fun v8 S7 hm => ?_)
        exact hR _ _ _ _ dX7_move_43 hm
      · refine cf_aload_n C dX7_move_29 rfl 0 rfl ?_
        refine gf_7_18 C inX7 okM_17 q712 dX7_move_30 ?_
        refine cf_iload_n C dX7_move_33 rfl 3 rfl ?_
        refine cf_iald C (okA_of 18 okM_17 rfl (by decide) (by decide) (by decide)) dX7_move_34 hm (fun hm => ?_)
        refine cf_if_ne C (tgt := 44) dX7_move_35 (by decide) hm (fun hm => ?_) (fun hm => ?_)
        · refine cf_aload_n C dX7_move_44 rfl 0 rfl ?_
          refine gf_7_18 C inX7 okM_17 q712 dX7_move_45 ?_
          refine cf_iload_n C dX7_move_48 rfl 1 rfl ?_
          refine cf_iald C (okA_of 18 okM_17 rfl (by decide) (by decide) (by decide)) dX7_move_49 hm (fun hm => ?_)
          refine cf_aload_n C dX7_move_50 rfl 0 rfl ?_
          refine gf_7_18 C inX7 okM_17 q712 dX7_move_51 ?_
          refine cf_iload_n C dX7_move_54 rfl 3 rfl ?_
          refine cf_iald C (okA_of 18 okM_17 rfl (by decide) (by decide) (by decide)) dX7_move_55 hm (fun hm => ?_)
          refine cf_icmp_eq C (tgt := 65) dX7_move_56 (by decide) hm (fun hm => ?_) (fun hm => ?_)
          · refine cf_iload C dX7_move_65 5 rfl ?_
            refine cf_if_lt C (tgt := 106) dX7_move_67 (by decide) hm (fun hm => ?_) (fun hm => ?_)
            · refine cf_sub C [0] rfl ?_
              exact w_J_X7_move_106 C hR _ hm
            · refine cf_iload_n C dX7_move_70 rfl 2 rfl ?_
              refine cf_if_lt C (tgt := 106) dX7_move_71 (by decide) hm (fun hm => ?_) (fun hm => ?_)
              · refine cf_sub C [0] rfl ?_
                exact w_J_X7_move_106 C hR _ hm
              · refine cf_iload C dX7_move_74 4 rfl ?_
                refine cf_if_lt C (tgt := 106) dX7_move_76 (by decide) hm (fun hm => ?_) (fun hm => ?_)
                · refine cf_sub C [0] rfl ?_
                  exact w_J_X7_move_106 C hR _ hm
                · refine cf_iload_n C dX7_move_79 rfl 2 rfl ?_
                  refine cf_aload_n C dX7_move_80 rfl 0 rfl ?_
                  refine gf_7_19 C inX7 okM_17 q713 dX7_move_81 ?_
                  refine cf_iload_n C dX7_move_84 rfl 1 rfl ?_
                  refine cf_iald C (okA_of 19 okM_17 rfl (by decide) (by decide) (by decide)) dX7_move_85 hm (fun hm => ?_)
                  refine cf_iload C dX7_move_86 5 rfl ?_
                  refine cf_isub C dX7_move_88 ?_
                  refine cf_icmp_gt C (tgt := 106) dX7_move_89 (by decide) hm (fun hm => ?_) (fun hm => ?_)
                  · refine cf_sub C [0] rfl ?_
                    exact w_J_X7_move_106 C hR _ hm
                  · refine cf_iload C dX7_move_92 4 rfl ?_
                    refine cf_aload_n C dX7_move_94 rfl 0 rfl ?_
                    refine gf_7_19 C inX7 okM_17 q713 dX7_move_95 ?_
                    refine cf_iload_n C dX7_move_98 rfl 3 rfl ?_
                    refine cf_iald C (okA_of 19 okM_17 rfl (by decide) (by decide) (by decide)) dX7_move_99 hm (fun hm => ?_)
                    refine cf_iload C dX7_move_100 5 rfl ?_
                    refine cf_isub C dX7_move_102 ?_
                    refine cf_icmp_le C (tgt := 112) dX7_move_103 (by decide) hm (fun hm => ?_) (fun hm => ?_)
                    · refine cf_iconst C dX7_move_112 (v := 0) rfl ?_
                      refine cf_istore C (L1 := [(6, .int 0), (0, .ref (adr (vG E) 17 0)), (1, .int x1), (2, .int x2), (3, .int x3), (4, .int x4), (5, .int x5)]) dX7_move_113 (by decide) rfl ?_
                      refine cf_sub C [1, 2, 3, 4, 5, 6, 0] rfl ?_
                      obtain ⟨k, hm⟩ := hm
                      exact w_L_X7_move_115 C hR k x1 x2 x3 x4 x5 0 _ hm
                    · refine cf_sub C [0] rfl ?_
                      exact w_J_X7_move_106 C hR _ hm
          · refine cf_aload_n C dX7_move_59 rfl 0 rfl ?_
            refine cf_iconst C dX7_move_60 (v := 5) rfl ?_
            refine cf_callVi C [.int 5] [] okM_17.1 (ocell_7 okM_17.2.1) rfl q771 q19 (c_X7_error (vL E) (vG E) 5 _ _  hm) q769 q772 q72 md_X7_error (Nat.le_of_ble_eq_true rfl) (Nat.le_of_ble_eq_true rfl) rfl rfl (Nat.le_of_ble_eq_true rfl) dX7_move_61 (fun v16 S15 hm => ?_)
            exact hR _ _ _ _ dX7_move_64 hm
        · refine cf_aload_n C dX7_move_38 rfl 0 rfl ?_
          refine cf_iconst C dX7_move_39 (v := 2) rfl ?_
          refine cf_callVi C [.int 2] [] okM_17.1 (ocell_7 okM_17.2.1) rfl q771 q19 (c_X7_error (vL E) (vG E) 2 _ _  hm) q769 q772 q72 md_X7_error (Nat.le_of_ble_eq_true rfl) (Nat.le_of_ble_eq_true rfl) rfl rfl (Nat.le_of_ble_eq_true rfl) dX7_move_40 (fun v18 S17 hm => ?_)
          exact hR _ _ _ _ dX7_move_43 hm
    · refine cf_aload_n C dX7_move_14 rfl 0 rfl ?_
      refine cf_iconst C dX7_move_15 (v := 1) rfl ?_
      refine cf_callVi C [.int 1] [] okM_17.1 (ocell_7 okM_17.2.1) rfl q771 q19 (c_X7_error (vL E) (vG E) 1 _ _  hm) q769 q772 q72 md_X7_error (Nat.le_of_ble_eq_true rfl) (Nat.le_of_ble_eq_true rfl) rfl rfl (Nat.le_of_ble_eq_true rfl) dX7_move_16 (fun v20 S19 hm => ?_)
      exact hR _ _ _ _ dX7_move_19 hm

def L_X7_serves_18    (Q : Int32 → St → Prop) : Nat → Int32 → Int32 → St → Prop
  | 0 => fun _ _ _ => False
  | n + 1 => fun x1 x3 S => vp_in x1 4 ∧ (if (S.2 17 19 x1.toNatClampNeg) ≤ x3 then (Q x3 S) else (E_X7_isDish x3 S (fun v4 S3 => if v4 = 0 then (Q x3 S3) else (vp_in ((24 * x1) + x3) 96 ∧ (E_X7_in (S3.2 17 20 ((24 * x1) + x3).toNatClampNeg) 0 99 S3 (fun v6 S5 => if v6 = 0 then (Q x3 S5) else (vp_in ((24 * x1) + x3) 96 ∧ (E_X7_lays1 x3 2 (S5.2 17 20 ((24 * x1) + x3).toNatClampNeg) S5 (fun S7 => nmI (x3 + 1) (fun v8 => L_X7_serves_18 Q n x1 v8 S7))))))))))
set_option maxRecDepth 20000 in
theorem w_L_X7_serves_18 {E : EV} {Q : Int32 → St → Prop}   (C : CX E cX7_serves RX7 4 enM 3 63)   (hR : RTi E cX7_serves Q) : ∀ (n : Nat) (x1 : Int32) (x3 : Int32) (S : St), L_X7_serves_18 Q n x1 x3 S → CF E S 18 [(0, .ref (adr (vG E) 17 0)), (1, .int x1), (3, .int x3)] [] := by
  intro n
  induction n with
  | zero =>
    intro x1 x3 S hm
    exact hm.elim
  | succ n ih =>
    intro x1 x3 S hm
    unfold L_X7_serves_18 at hm
    refine cf_iload_n C dX7_serves_18 rfl 2 rfl ?_
    refine cf_aload_n C dX7_serves_19 rfl 0 rfl ?_
    refine gf_7_19 C inX7 okM_17 q713 dX7_serves_20 ?_
    refine cf_iload_n C dX7_serves_23 rfl 1 rfl ?_
    refine cf_iald C (okA_of 19 okM_17 rfl (by decide) (by decide) (by decide)) dX7_serves_24 hm (fun hm => ?_)
    refine cf_icmp_ge C (tgt := 79) dX7_serves_25 (by decide) hm (fun hm => ?_) (fun hm => ?_)
    · refine cf_iload_n C dX7_serves_79 rfl 2 rfl ?_
      exact hR _ _ _ _ dX7_serves_80 hm
    · refine cf_aload_n C dX7_serves_28 rfl 0 rfl ?_
      refine cf_iload_n C dX7_serves_29 rfl 2 rfl ?_
      refine cf_callVi C [.int x3] [] okM_17.1 (ocell_7 okM_17.2.1) rfl q848 q33 (c_X7_isDish (vL E) (vG E) x3 _ _  hm) q846 q849 q72 md_X7_isDish (Nat.le_of_ble_eq_true rfl) (Nat.le_of_ble_eq_true rfl) rfl rfl (Nat.le_of_ble_eq_true rfl) dX7_serves_30 (fun v4 S3 hm => ?_)
      refine cf_if_eq C (tgt := 79) dX7_serves_33 (by decide) hm (fun hm => ?_) (fun hm => ?_)
      · refine cf_iload_n C dX7_serves_79 rfl 2 rfl ?_
        exact hR _ _ _ _ dX7_serves_80 hm
      · refine cf_aload_n C dX7_serves_36 rfl 0 rfl ?_
        refine gf_7_20 C inX7 okM_17 q714 dX7_serves_37 ?_
        refine cf_bipush C dX7_serves_40 (v := 24) rfl ?_
        refine cf_iload_n C dX7_serves_42 rfl 1 rfl ?_
        refine cf_imul C dX7_serves_43 ?_
        refine cf_iload_n C dX7_serves_44 rfl 2 rfl ?_
        refine cf_iadd C dX7_serves_45 ?_
        refine cf_iald C (okA_of 20 okM_17 rfl (by decide) (by decide) (by decide)) dX7_serves_46 hm (fun hm => ?_)
        refine cf_iconst C dX7_serves_47 (v := 0) rfl ?_
        refine cf_bipush C dX7_serves_48 (v := 99) rfl ?_
        refine cf_callSi C [.int (S3.2 17 20 ((24 * x1) + x3).toNatClampNeg), .int 0, .int 99] [] q767 (c_X7_in (vL E) (vG E) (S3.2 17 20 ((24 * x1) + x3).toNatClampNeg) 0 99 _ _  hm) q766 q768 q72 md_X7_in (Nat.le_of_ble_eq_true rfl) (Nat.le_of_ble_eq_true rfl) rfl rfl (Nat.le_of_ble_eq_true rfl) dX7_serves_50 (fun v6 S5 hm => ?_)
        refine cf_if_eq C (tgt := 79) dX7_serves_53 (by decide) hm (fun hm => ?_) (fun hm => ?_)
        · refine cf_iload_n C dX7_serves_79 rfl 2 rfl ?_
          exact hR _ _ _ _ dX7_serves_80 hm
        · refine cf_aload_n C dX7_serves_56 rfl 0 rfl ?_
          refine cf_iload_n C dX7_serves_57 rfl 2 rfl ?_
          refine cf_iconst C dX7_serves_58 (v := 2) rfl ?_
          refine cf_aload_n C dX7_serves_59 rfl 0 rfl ?_
          refine gf_7_20 C inX7 okM_17 q714 dX7_serves_60 ?_
          refine cf_bipush C dX7_serves_63 (v := 24) rfl ?_
          refine cf_iload_n C dX7_serves_65 rfl 1 rfl ?_
          refine cf_imul C dX7_serves_66 ?_
          refine cf_iload_n C dX7_serves_67 rfl 2 rfl ?_
          refine cf_iadd C dX7_serves_68 ?_
          refine cf_iald C (okA_of 20 okM_17 rfl (by decide) (by decide) (by decide)) dX7_serves_69 hm (fun hm => ?_)
          refine cf_callVv C [.int x3, .int 2, .int (S5.2 17 20 ((24 * x1) + x3).toNatClampNeg)] [] okM_17.1 (ocell_7 okM_17.2.1) rfl q840 q32 (c_X7_lays1 (vL E) (vG E) x3 2 (S5.2 17 20 ((24 * x1) + x3).toNatClampNeg) _ _  hm) q838 q841 q72 md_X7_lays1 (Nat.le_of_ble_eq_true rfl) (Nat.le_of_ble_eq_true rfl) rfl rfl (Nat.le_of_ble_eq_true rfl) dX7_serves_70 (fun S7 hm => ?_)
          refine cf_iincN C (L1 := fun v8 => [(3, .int v8), (0, .ref (adr (vG E) 17 0)), (1, .int x1)]) dX7_serves_73 2 rfl rfl (by decide) (fun _ => rfl) hm (fun v8 hm => ?_)
          refine cf_goto C (tgt := 18) dX7_serves_76 (by decide) ?_
          refine cf_sub C [1, 2, 0] rfl ?_
          exact ih x1 v8 _ hm
def E_X7_serves (x1 : Int32) (S : St) (Q : Int32 → St → Prop) : Prop := E_X7_lacks x1 S (fun v2 S1 => if v2 = 0 then (∃ k, L_X7_serves_18 Q k x1 0 S1) else (E_X7_error v2 S1 (fun v10 S9 => Q v10 S9)))
set_option maxRecDepth 20000 in
theorem c_X7_serves (l : Launch) (G : GX) (x1 : Int32) (S : St) (Q : Int32 → St → Prop)  (hm : E_X7_serves x1 S Q) : CTi l yX7_serves (Cond.code yX7_serves cX7_serves 4 (some .int) :: AW) { frames := 3, cells := 0, slots := 0, locals := 63 } G enM [.ref (adr G 17 0), .int x1] S Q := by
  refine ct_start_i (by decide) enM_nd (Nat.le_of_ble_eq_true rfl) (fun E hG hl C hR => ?_)
  subst hG
  subst hl
  show CF E S 0 [(0, .ref (adr (vG E) 17 0)), (1, .int x1)] []
  unfold E_X7_serves at hm
  refine cf_aload_n C dX7_serves_0 rfl 0 rfl ?_
  refine cf_iload_n C dX7_serves_1 rfl 1 rfl ?_
  refine cf_callVi C [.int x1] [] okM_17.1 (ocell_7 okM_17.2.1) rfl q1026 q55 (c_X7_lacks (vL E) (vG E) x1 _ _  hm) q1024 q1027 q72 md_X7_lacks (Nat.le_of_ble_eq_true rfl) (Nat.le_of_ble_eq_true rfl) rfl rfl (Nat.le_of_ble_eq_true rfl) dX7_serves_2 (fun v2 S1 hm => ?_)
  refine cf_istore_n C (L1 := [(2, .int v2), (0, .ref (adr (vG E) 17 0)), (1, .int x1)]) dX7_serves_5 rfl (by decide) rfl ?_
  refine cf_iload_n C dX7_serves_6 rfl 0 rfl ?_
  refine cf_if_eq C (tgt := 16) dX7_serves_7 (by decide) hm (fun hm => ?_) (fun hm => ?_)
  · refine cf_iconst C dX7_serves_16 (v := 0) rfl ?_
    refine cf_istore_n C (L1 := [(3, .int 0), (2, .int v2), (0, .ref (adr (vG E) 17 0)), (1, .int x1)]) dX7_serves_17 rfl (by decide) rfl ?_
    refine cf_sub C [2, 3, 0] rfl ?_
    obtain ⟨k, hm⟩ := hm
    exact w_L_X7_serves_18 C hR k x1 0 _ hm
  · refine cf_aload_n C dX7_serves_10 rfl 1 rfl ?_
    refine cf_iload_n C dX7_serves_11 rfl 0 rfl ?_
    refine cf_callVi C [.int v2] [] okM_17.1 (ocell_7 okM_17.2.1) rfl q771 q19 (c_X7_error (vL E) (vG E) v2 _ _  hm) q769 q772 q72 md_X7_error (Nat.le_of_ble_eq_true rfl) (Nat.le_of_ble_eq_true rfl) rfl rfl (Nat.le_of_ble_eq_true rfl) dX7_serves_12 (fun v10 S9 hm => ?_)
    exact hR _ _ _ _ dX7_serves_15 hm

def L_X7_judge_18    (Q : Int32 → St → Prop) : Nat → Int32 → Int32 → St → Prop
  | 0 => fun _ _ _ => False
  | n + 1 => fun x1 x3 S => vp_in x1 4 ∧ (if (S.2 17 19 x1.toNatClampNeg) ≤ x3 then (Q x3 S) else (E_X7_isDish x3 S (fun v4 S3 => if v4 = 0 then (Q x3 S3) else (E_X7_claimOf x3 S3 (fun v6 S5 => vp_in ((24 * x1) + x3) 96 ∧ (if v6 = (S5.2 17 20 ((24 * x1) + x3).toNatClampNeg) then (nmI (x3 + 1) (fun v7 => L_X7_judge_18 Q n x1 v7 S5)) else (Q x3 S5)))))))
set_option maxRecDepth 20000 in
theorem w_L_X7_judge_18 {E : EV} {Q : Int32 → St → Prop}   (C : CX E cX7_judge RX7 4 enM 4 92)   (hR : RTi E cX7_judge Q) : ∀ (n : Nat) (x1 : Int32) (x3 : Int32) (S : St), L_X7_judge_18 Q n x1 x3 S → CF E S 18 [(0, .ref (adr (vG E) 17 0)), (1, .int x1), (3, .int x3)] [] := by
  intro n
  induction n with
  | zero =>
    intro x1 x3 S hm
    exact hm.elim
  | succ n ih =>
    intro x1 x3 S hm
    unfold L_X7_judge_18 at hm
    refine cf_iload_n C dX7_judge_18 rfl 2 rfl ?_
    refine cf_aload_n C dX7_judge_19 rfl 0 rfl ?_
    refine gf_7_19 C inX7 okM_17 q713 dX7_judge_20 ?_
    refine cf_iload_n C dX7_judge_23 rfl 1 rfl ?_
    refine cf_iald C (okA_of 19 okM_17 rfl (by decide) (by decide) (by decide)) dX7_judge_24 hm (fun hm => ?_)
    refine cf_icmp_ge C (tgt := 61) dX7_judge_25 (by decide) hm (fun hm => ?_) (fun hm => ?_)
    · refine cf_iload_n C dX7_judge_61 rfl 2 rfl ?_
      exact hR _ _ _ _ dX7_judge_62 hm
    · refine cf_aload_n C dX7_judge_28 rfl 0 rfl ?_
      refine cf_iload_n C dX7_judge_29 rfl 2 rfl ?_
      refine cf_callVi C [.int x3] [] okM_17.1 (ocell_7 okM_17.2.1) rfl q848 q33 (c_X7_isDish (vL E) (vG E) x3 _ _  hm) q846 q849 q72 md_X7_isDish (Nat.le_of_ble_eq_true rfl) (Nat.le_of_ble_eq_true rfl) rfl rfl (Nat.le_of_ble_eq_true rfl) dX7_judge_30 (fun v4 S3 hm => ?_)
      refine cf_if_eq C (tgt := 61) dX7_judge_33 (by decide) hm (fun hm => ?_) (fun hm => ?_)
      · refine cf_iload_n C dX7_judge_61 rfl 2 rfl ?_
        exact hR _ _ _ _ dX7_judge_62 hm
      · refine cf_aload_n C dX7_judge_36 rfl 0 rfl ?_
        refine cf_iload_n C dX7_judge_37 rfl 2 rfl ?_
        refine cf_callVi C [.int x3] [] okM_17.1 (ocell_7 okM_17.2.1) rfl q852 q34 (c_X7_claimOf (vL E) (vG E) x3 _ _  hm) q850 q853 q72 md_X7_claimOf (Nat.le_of_ble_eq_true rfl) (Nat.le_of_ble_eq_true rfl) rfl rfl (Nat.le_of_ble_eq_true rfl) dX7_judge_38 (fun v6 S5 hm => ?_)
        refine cf_aload_n C dX7_judge_41 rfl 0 rfl ?_
        refine gf_7_20 C inX7 okM_17 q714 dX7_judge_42 ?_
        refine cf_bipush C dX7_judge_45 (v := 24) rfl ?_
        refine cf_iload_n C dX7_judge_47 rfl 1 rfl ?_
        refine cf_imul C dX7_judge_48 ?_
        refine cf_iload_n C dX7_judge_49 rfl 2 rfl ?_
        refine cf_iadd C dX7_judge_50 ?_
        refine cf_iald C (okA_of 20 okM_17 rfl (by decide) (by decide) (by decide)) dX7_judge_51 hm (fun hm => ?_)
        refine cf_icmp_ne C (tgt := 61) dX7_judge_52 (by decide) hm (fun hm => ?_) (fun hm => ?_)
        · refine cf_iload_n C dX7_judge_61 rfl 2 rfl ?_
          exact hR _ _ _ _ dX7_judge_62 hm
        · refine cf_iincN C (L1 := fun v7 => [(3, .int v7), (0, .ref (adr (vG E) 17 0)), (1, .int x1)]) dX7_judge_55 2 rfl rfl (by decide) (fun _ => rfl) hm (fun v7 hm => ?_)
          refine cf_goto C (tgt := 18) dX7_judge_58 (by decide) ?_
          refine cf_sub C [1, 2, 0] rfl ?_
          exact ih x1 v7 _ hm
def E_X7_judge (x1 : Int32) (S : St) (Q : Int32 → St → Prop) : Prop := E_X7_lacks x1 S (fun v2 S1 => if v2 = 0 then (∃ k, L_X7_judge_18 Q k x1 0 S1) else (E_X7_error v2 S1 (fun v9 S8 => Q v9 S8)))
set_option maxRecDepth 20000 in
theorem c_X7_judge (l : Launch) (G : GX) (x1 : Int32) (S : St) (Q : Int32 → St → Prop)  (hm : E_X7_judge x1 S Q) : CTi l yX7_judge (Cond.code yX7_judge cX7_judge 4 (some .int) :: AW) { frames := 4, cells := 0, slots := 0, locals := 92 } G enM [.ref (adr G 17 0), .int x1] S Q := by
  refine ct_start_i (by decide) enM_nd (Nat.le_of_ble_eq_true rfl) (fun E hG hl C hR => ?_)
  subst hG
  subst hl
  show CF E S 0 [(0, .ref (adr (vG E) 17 0)), (1, .int x1)] []
  unfold E_X7_judge at hm
  refine cf_aload_n C dX7_judge_0 rfl 0 rfl ?_
  refine cf_iload_n C dX7_judge_1 rfl 1 rfl ?_
  refine cf_callVi C [.int x1] [] okM_17.1 (ocell_7 okM_17.2.1) rfl q1026 q55 (c_X7_lacks (vL E) (vG E) x1 _ _  hm) q1024 q1027 q72 md_X7_lacks (Nat.le_of_ble_eq_true rfl) (Nat.le_of_ble_eq_true rfl) rfl rfl (Nat.le_of_ble_eq_true rfl) dX7_judge_2 (fun v2 S1 hm => ?_)
  refine cf_istore_n C (L1 := [(2, .int v2), (0, .ref (adr (vG E) 17 0)), (1, .int x1)]) dX7_judge_5 rfl (by decide) rfl ?_
  refine cf_iload_n C dX7_judge_6 rfl 0 rfl ?_
  refine cf_if_eq C (tgt := 16) dX7_judge_7 (by decide) hm (fun hm => ?_) (fun hm => ?_)
  · refine cf_iconst C dX7_judge_16 (v := 0) rfl ?_
    refine cf_istore_n C (L1 := [(3, .int 0), (2, .int v2), (0, .ref (adr (vG E) 17 0)), (1, .int x1)]) dX7_judge_17 rfl (by decide) rfl ?_
    refine cf_sub C [2, 3, 0] rfl ?_
    obtain ⟨k, hm⟩ := hm
    exact w_L_X7_judge_18 C hR k x1 0 _ hm
  · refine cf_aload_n C dX7_judge_10 rfl 1 rfl ?_
    refine cf_iload_n C dX7_judge_11 rfl 0 rfl ?_
    refine cf_callVi C [.int v2] [] okM_17.1 (ocell_7 okM_17.2.1) rfl q771 q19 (c_X7_error (vL E) (vG E) v2 _ _  hm) q769 q772 q72 md_X7_error (Nat.le_of_ble_eq_true rfl) (Nat.le_of_ble_eq_true rfl) rfl rfl (Nat.le_of_ble_eq_true rfl) dX7_judge_12 (fun v9 S8 hm => ?_)
    exact hR _ _ _ _ dX7_judge_15 hm

def L_X7_copyAll_2 (a0 : Nat) (b0 : Nat) (a1 : Nat) (b1 : Nat)   (Q : St → Prop) : Nat → Int32 → St → Prop
  | 0 => fun _ _ => False
  | n + 1 => fun x2 S => if 387 ≤ x2 then (Q S) else (vp_in x2 387 ∧ (vp_in x2 387 ∧ (nmS (stR S a1 b1 (upd (S.2 a1 b1) x2.toNatClampNeg (S.2 a0 b0 x2.toNatClampNeg))) (fun S1 => nmI (x2 + 1) (fun v2 => L_X7_copyAll_2 a0 b0 a1 b1 Q n v2 S1)))))
set_option maxRecDepth 20000 in
theorem w_L_X7_copyAll_2 {E : EV} {Q : St → Prop} {a0 : Nat} {b0 : Nat} {a1 : Nat} {b1 : Nat}  (C : CX E cX7_copyAll RX7 3 enM 0 0) (h0 : okA enM a0 b0 387) (h1 : okA enM a1 b1 387)  (hR : RTv E cX7_copyAll Q) : ∀ (n : Nat) (x2 : Int32) (S : St), L_X7_copyAll_2 a0 b0 a1 b1 Q n x2 S → CF E S 2 [(0, .ref (adr (vG E) a0 (b0 + 1))), (1, .ref (adr (vG E) a1 (b1 + 1))), (2, .int x2)] [] := by
  intro n
  induction n with
  | zero =>
    intro x2 S hm
    exact hm.elim
  | succ n ih =>
    intro x2 S hm
    unfold L_X7_copyAll_2 at hm
    refine cf_iload_n C dX7_copyAll_2 rfl 2 rfl ?_
    refine cf_sipush C dX7_copyAll_3 (v := 387) rfl ?_
    refine cf_icmp_ge C (tgt := 21) dX7_copyAll_6 (by decide) hm (fun hm => ?_) (fun hm => ?_)
    · exact hR _ _ _ dX7_copyAll_21 hm
    · refine cf_aload_n C dX7_copyAll_9 rfl 1 rfl ?_
      refine cf_iload_n C dX7_copyAll_10 rfl 2 rfl ?_
      refine cf_aload_n C dX7_copyAll_11 rfl 0 rfl ?_
      refine cf_iload_n C dX7_copyAll_12 rfl 2 rfl ?_
      refine cf_iald C h0 dX7_copyAll_13 hm (fun hm => ?_)
      refine cf_iast C h1 dX7_copyAll_14 hm (fun hm => ?_)
      refine cf_nmS hm (fun S1 hm => ?_)
      refine cf_iincN C (L1 := fun v2 => [(2, .int v2), (0, .ref (adr (vG E) a0 (b0 + 1))), (1, .ref (adr (vG E) a1 (b1 + 1)))]) dX7_copyAll_15 2 rfl rfl (by decide) (fun _ => rfl) hm (fun v2 hm => ?_)
      refine cf_goto C (tgt := 2) dX7_copyAll_18 (by decide) ?_
      refine cf_sub C [1, 2, 0] rfl ?_
      exact ih v2 _ hm
def E_X7_copyAll (a0 : Nat) (b0 : Nat) (a1 : Nat) (b1 : Nat) (S : St) (Q : St → Prop) : Prop := ∃ k, L_X7_copyAll_2 a0 b0 a1 b1 Q k 0 S
set_option maxRecDepth 20000 in
theorem c_X7_copyAll (l : Launch) (G : GX) (a0 : Nat) (b0 : Nat) (a1 : Nat) (b1 : Nat) (S : St) (Q : St → Prop) (h0 : okA enM a0 b0 387) (h1 : okA enM a1 b1 387) (hm : E_X7_copyAll a0 b0 a1 b1 S Q) : CTv l yX7_copyAll (Cond.code yX7_copyAll cX7_copyAll 3 none :: AW) { frames := 0, cells := 0, slots := 0, locals := 0 } G enM [.ref (adr G a0 (b0 + 1)), .ref (adr G a1 (b1 + 1))] S Q := by
  refine ct_start_v (by decide) enM_nd (Nat.le_of_ble_eq_true rfl) (fun E hG hl C hR => ?_)
  subst hG
  subst hl
  show CF E S 0 [(0, .ref (adr (vG E) a0 (b0 + 1))), (1, .ref (adr (vG E) a1 (b1 + 1)))] []
  unfold E_X7_copyAll at hm
  refine cf_iconst C dX7_copyAll_0 (v := 0) rfl ?_
  refine cf_istore_n C (L1 := [(2, .int 0), (0, .ref (adr (vG E) a0 (b0 + 1))), (1, .ref (adr (vG E) a1 (b1 + 1)))]) dX7_copyAll_1 rfl (by decide) rfl ?_
  refine cf_sub C [1, 2, 0] rfl ?_
  obtain ⟨k, hm⟩ := hm
  exact w_L_X7_copyAll_2 C h0 h1 hR k 0 _ hm

def E_X7_image  (S : St) (Q : Int32 → St → Prop) : Prop := E_X7_copyAll 17 0 17 1 S (fun S1 => nmS (stI S1 17 3 ((S1.1 17 3) + 1)) (fun S2 => Q (S2.1 17 3) S2))
set_option maxRecDepth 20000 in
theorem c_X7_image (l : Launch) (G : GX)  (S : St) (Q : Int32 → St → Prop)  (hm : E_X7_image  S Q) : CTi l yX7_image (Cond.code yX7_image cX7_image 1 (some .int) :: AW) { frames := 1, cells := 0, slots := 0, locals := 22 } G enM [.ref (adr G 17 0)] S Q := by
  refine ct_start_i (by decide) enM_nd (Nat.le_of_ble_eq_true rfl) (fun E hG hl C hR => ?_)
  subst hG
  subst hl
  show CF E S 0 [(0, .ref (adr (vG E) 17 0))] []
  unfold E_X7_image at hm
  refine cf_aload_n C dX7_image_0 rfl 0 rfl ?_
  refine gf_7_0 C inX7 okM_17 q694 dX7_image_1 ?_
  refine cf_aload_n C dX7_image_4 rfl 0 rfl ?_
  refine gf_7_1 C inX7 okM_17 q695 dX7_image_5 ?_
  refine cf_callSv C [.ref (adr (vG E) 17 1), .ref (adr (vG E) 17 2)] [] q1096 (c_X7_copyAll (vL E) (vG E) 17 0 17 1 _ _ (okA_of 0 okM_17 rfl (by decide) (by decide) (by decide)) (okA_of 1 okM_17 rfl (by decide) (by decide) (by decide)) hm) q1095 q1097 q72 md_X7_copyAll (Nat.le_of_ble_eq_true rfl) (Nat.le_of_ble_eq_true rfl) rfl rfl (Nat.le_of_ble_eq_true rfl) dX7_image_8 (fun S1 hm => ?_)
  refine cf_aload_n C dX7_image_11 rfl 0 rfl ?_
  refine cf_dup C dX7_image_12 rfl ?_
  refine gf_7_3 C inX7 okM_17 q697 dX7_image_13 ?_
  refine cf_iconst C dX7_image_16 (v := 1) rfl ?_
  refine cf_iadd C dX7_image_17 ?_
  refine pf_7_3 C inX7 okM_17 q697 dX7_image_18 ?_
  refine cf_nmS hm (fun S2 hm => ?_)
  refine cf_aload_n C dX7_image_21 rfl 0 rfl ?_
  refine gf_7_3 C inX7 okM_17 q697 dX7_image_22 ?_
  exact hR _ _ _ _ dX7_image_25 hm

def E_X7_restore  (S : St) (Q : Int32 → St → Prop) : Prop := if (S.1 17 3) = 0 then (E_X7_error 2 S (fun v3 S2 => Q v3 S2)) else (E_X7_copyAll 17 1 17 0 S (fun S1 => vp_in 0 387 ∧ (Q (S1.2 17 0 (0 : Int32).toNatClampNeg) S1)))
set_option maxRecDepth 20000 in
theorem c_X7_restore (l : Launch) (G : GX)  (S : St) (Q : Int32 → St → Prop)  (hm : E_X7_restore  S Q) : CTi l yX7_restore (Cond.code yX7_restore cX7_restore 1 (some .int) :: AW) { frames := 1, cells := 0, slots := 0, locals := 22 } G enM [.ref (adr G 17 0)] S Q := by
  refine ct_start_i (by decide) enM_nd (Nat.le_of_ble_eq_true rfl) (fun E hG hl C hR => ?_)
  subst hG
  subst hl
  show CF E S 0 [(0, .ref (adr (vG E) 17 0))] []
  unfold E_X7_restore at hm
  refine cf_aload_n C dX7_restore_0 rfl 0 rfl ?_
  refine gf_7_3 C inX7 okM_17 q697 dX7_restore_1 ?_
  refine cf_if_ne C (tgt := 13) dX7_restore_4 (by decide) hm (fun hm => ?_) (fun hm => ?_)
  · refine cf_aload_n C dX7_restore_13 rfl 0 rfl ?_
    refine gf_7_1 C inX7 okM_17 q695 dX7_restore_14 ?_
    refine cf_aload_n C dX7_restore_17 rfl 0 rfl ?_
    refine gf_7_0 C inX7 okM_17 q694 dX7_restore_18 ?_
    refine cf_callSv C [.ref (adr (vG E) 17 2), .ref (adr (vG E) 17 1)] [] q1096 (c_X7_copyAll (vL E) (vG E) 17 1 17 0 _ _ (okA_of 1 okM_17 rfl (by decide) (by decide) (by decide)) (okA_of 0 okM_17 rfl (by decide) (by decide) (by decide)) hm) q1095 q1097 q72 md_X7_copyAll (Nat.le_of_ble_eq_true rfl) (Nat.le_of_ble_eq_true rfl) rfl rfl (Nat.le_of_ble_eq_true rfl) dX7_restore_21 (fun S1 hm => ?_)
    refine cf_aload_n C dX7_restore_24 rfl 0 rfl ?_
    refine gf_7_0 C inX7 okM_17 q694 dX7_restore_25 ?_
    refine cf_iconst C dX7_restore_28 (v := 0) rfl ?_
    refine cf_iald C (okA_of 0 okM_17 rfl (by decide) (by decide) (by decide)) dX7_restore_29 hm (fun hm => ?_)
    exact hR _ _ _ _ dX7_restore_30 hm
  · refine cf_aload_n C dX7_restore_7 rfl 0 rfl ?_
    refine cf_iconst C dX7_restore_8 (v := 2) rfl ?_
    refine cf_callVi C [.int 2] [] okM_17.1 (ocell_7 okM_17.2.1) rfl q771 q19 (c_X7_error (vL E) (vG E) 2 _ _  hm) q769 q772 q72 md_X7_error (Nat.le_of_ble_eq_true rfl) (Nat.le_of_ble_eq_true rfl) rfl rfl (Nat.le_of_ble_eq_true rfl) dX7_restore_9 (fun v3 S2 hm => ?_)
    exact hR _ _ _ _ dX7_restore_12 hm

def E_X7_tell (x1 : Int32) (S : St) (Q : Int32 → St → Prop) : Prop := vp_in 4 387 ∧ (if (S.2 17 0 (4 : Int32).toNatClampNeg) = 24 then (E_X7_error 4 S (fun v4 S3 => Q v4 S3)) else (vp_in 4 387 ∧ (vp_in (363 + (S.2 17 0 (4 : Int32).toNatClampNeg)) 387 ∧ (nmS (stR S 17 0 (upd (S.2 17 0) (363 + (S.2 17 0 (4 : Int32).toNatClampNeg)).toNatClampNeg x1)) (fun S1 => vp_in 4 387 ∧ (vp_in 4 387 ∧ (nmS (stR S1 17 0 (upd (S1.2 17 0) (4 : Int32).toNatClampNeg ((S1.2 17 0 (4 : Int32).toNatClampNeg) + 1))) (fun S2 => vp_in 4 387 ∧ (Q (S2.2 17 0 (4 : Int32).toNatClampNeg) S2)))))))))
set_option maxRecDepth 20000 in
theorem c_X7_tell (l : Launch) (G : GX) (x1 : Int32) (S : St) (Q : Int32 → St → Prop)  (hm : E_X7_tell x1 S Q) : CTi l yX7_tell (Cond.code yX7_tell cX7_tell 2 (some .int) :: AW) { frames := 1, cells := 0, slots := 0, locals := 21 } G enM [.ref (adr G 17 0), .int x1] S Q := by
  refine ct_start_i (by decide) enM_nd (Nat.le_of_ble_eq_true rfl) (fun E hG hl C hR => ?_)
  subst hG
  subst hl
  show CF E S 0 [(0, .ref (adr (vG E) 17 0)), (1, .int x1)] []
  unfold E_X7_tell at hm
  refine cf_aload_n C dX7_tell_0 rfl 0 rfl ?_
  refine gf_7_0 C inX7 okM_17 q694 dX7_tell_1 ?_
  refine cf_iconst C dX7_tell_4 (v := 4) rfl ?_
  refine cf_iald C (okA_of 0 okM_17 rfl (by decide) (by decide) (by decide)) dX7_tell_5 hm (fun hm => ?_)
  refine cf_bipush C dX7_tell_6 (v := 24) rfl ?_
  refine cf_icmp_ne C (tgt := 17) dX7_tell_8 (by decide) hm (fun hm => ?_) (fun hm => ?_)
  · refine cf_aload_n C dX7_tell_17 rfl 0 rfl ?_
    refine gf_7_0 C inX7 okM_17 q694 dX7_tell_18 ?_
    refine cf_sipush C dX7_tell_21 (v := 363) rfl ?_
    refine cf_aload_n C dX7_tell_24 rfl 0 rfl ?_
    refine gf_7_0 C inX7 okM_17 q694 dX7_tell_25 ?_
    refine cf_iconst C dX7_tell_28 (v := 4) rfl ?_
    refine cf_iald C (okA_of 0 okM_17 rfl (by decide) (by decide) (by decide)) dX7_tell_29 hm (fun hm => ?_)
    refine cf_iadd C dX7_tell_30 ?_
    refine cf_iload_n C dX7_tell_31 rfl 1 rfl ?_
    refine cf_iast C (okA_of 0 okM_17 rfl (by decide) (by decide) (by decide)) dX7_tell_32 hm (fun hm => ?_)
    refine cf_nmS hm (fun S1 hm => ?_)
    refine cf_aload_n C dX7_tell_33 rfl 0 rfl ?_
    refine gf_7_0 C inX7 okM_17 q694 dX7_tell_34 ?_
    refine cf_iconst C dX7_tell_37 (v := 4) rfl ?_
    refine cf_dup2 C dX7_tell_38 rfl rfl ?_
    refine cf_iald C (okA_of 0 okM_17 rfl (by decide) (by decide) (by decide)) dX7_tell_39 hm (fun hm => ?_)
    refine cf_iconst C dX7_tell_40 (v := 1) rfl ?_
    refine cf_iadd C dX7_tell_41 ?_
    refine cf_iast C (okA_of 0 okM_17 rfl (by decide) (by decide) (by decide)) dX7_tell_42 hm (fun hm => ?_)
    refine cf_nmS hm (fun S2 hm => ?_)
    refine cf_aload_n C dX7_tell_43 rfl 0 rfl ?_
    refine gf_7_0 C inX7 okM_17 q694 dX7_tell_44 ?_
    refine cf_iconst C dX7_tell_47 (v := 4) rfl ?_
    refine cf_iald C (okA_of 0 okM_17 rfl (by decide) (by decide) (by decide)) dX7_tell_48 hm (fun hm => ?_)
    exact hR _ _ _ _ dX7_tell_49 hm
  · refine cf_aload_n C dX7_tell_11 rfl 0 rfl ?_
    refine cf_iconst C dX7_tell_12 (v := 4) rfl ?_
    refine cf_callVi C [.int 4] [] okM_17.1 (ocell_7 okM_17.2.1) rfl q771 q19 (c_X7_error (vL E) (vG E) 4 _ _  hm) q769 q772 q72 md_X7_error (Nat.le_of_ble_eq_true rfl) (Nat.le_of_ble_eq_true rfl) rfl rfl (Nat.le_of_ble_eq_true rfl) dX7_tell_13 (fun v4 S3 hm => ?_)
    exact hR _ _ _ _ dX7_tell_16 hm

def L_X7_check_16    (Q : Int32 → St → Prop) : Nat → Int32 → Int32 → St → Prop
  | 0 => fun _ _ _ => False
  | n + 1 => fun x1 x2 S => if x1 ≤ x2 then (Q 0 S) else (E_X7_isDish x2 S (fun v4 S3 => if v4 = 0 then (Q (1 + x2) S3) else (vp_in (363 + x2) 387 ∧ (E_X7_its x2 3 S3 (fun v6 S5 => if (S3.2 17 0 (363 + x2).toNatClampNeg) = v6 then (nmI (x2 + 1) (fun v7 => L_X7_check_16 Q n x1 v7 S5)) else (Q (1 + x2) S5))))))
set_option maxRecDepth 20000 in
theorem w_L_X7_check_16 {E : EV} {Q : Int32 → St → Prop}   (C : CX E cX7_check RX7 3 enM 2 43)   (hR : RTi E cX7_check Q) : ∀ (n : Nat) (x1 : Int32) (x2 : Int32) (S : St), L_X7_check_16 Q n x1 x2 S → CF E S 16 [(0, .ref (adr (vG E) 17 0)), (1, .int x1), (2, .int x2)] [] := by
  intro n
  induction n with
  | zero =>
    intro x1 x2 S hm
    exact hm.elim
  | succ n ih =>
    intro x1 x2 S hm
    unfold L_X7_check_16 at hm
    refine cf_iload_n C dX7_check_16 rfl 2 rfl ?_
    refine cf_iload_n C dX7_check_17 rfl 1 rfl ?_
    refine cf_icmp_ge C (tgt := 58) dX7_check_18 (by decide) hm (fun hm => ?_) (fun hm => ?_)
    · refine cf_iconst C dX7_check_58 (v := 0) rfl ?_
      exact hR _ _ _ _ dX7_check_59 hm
    · refine cf_aload_n C dX7_check_21 rfl 0 rfl ?_
      refine cf_iload_n C dX7_check_22 rfl 2 rfl ?_
      refine cf_callVi C [.int x2] [] okM_17.1 (ocell_7 okM_17.2.1) rfl q848 q33 (c_X7_isDish (vL E) (vG E) x2 _ _  hm) q846 q849 q72 md_X7_isDish (Nat.le_of_ble_eq_true rfl) (Nat.le_of_ble_eq_true rfl) rfl rfl (Nat.le_of_ble_eq_true rfl) dX7_check_23 (fun v4 S3 hm => ?_)
      refine cf_if_eq C (tgt := 48) dX7_check_26 (by decide) hm (fun hm => ?_) (fun hm => ?_)
      · refine cf_iconst C dX7_check_48 (v := 1) rfl ?_
        refine cf_iload_n C dX7_check_49 rfl 2 rfl ?_
        refine cf_iadd C dX7_check_50 ?_
        exact hR _ _ _ _ dX7_check_51 hm
      · refine cf_aload_n C dX7_check_29 rfl 0 rfl ?_
        refine gf_7_0 C inX7 okM_17 q694 dX7_check_30 ?_
        refine cf_sipush C dX7_check_33 (v := 363) rfl ?_
        refine cf_iload_n C dX7_check_36 rfl 2 rfl ?_
        refine cf_iadd C dX7_check_37 ?_
        refine cf_iald C (okA_of 0 okM_17 rfl (by decide) (by decide) (by decide)) dX7_check_38 hm (fun hm => ?_)
        refine cf_aload_n C dX7_check_39 rfl 0 rfl ?_
        refine cf_iload_n C dX7_check_40 rfl 2 rfl ?_
        refine cf_iconst C dX7_check_41 (v := 3) rfl ?_
        refine cf_callVi C [.int x2, .int 3] [.int (S3.2 17 0 (363 + x2).toNatClampNeg)] okM_17.1 (ocell_7 okM_17.2.1) rfl q860 q36 (c_X7_its (vL E) (vG E) x2 3 _ _  hm) q858 q861 q72 md_X7_its (Nat.le_of_ble_eq_true rfl) (Nat.le_of_ble_eq_true rfl) rfl rfl (Nat.le_of_ble_eq_true rfl) dX7_check_42 (fun v6 S5 hm => ?_)
        refine cf_icmp_eq C (tgt := 52) dX7_check_45 (by decide) hm (fun hm => ?_) (fun hm => ?_)
        · refine cf_iincN C (L1 := fun v7 => [(2, .int v7), (0, .ref (adr (vG E) 17 0)), (1, .int x1)]) dX7_check_52 2 rfl rfl (by decide) (fun _ => rfl) hm (fun v7 hm => ?_)
          refine cf_goto C (tgt := 16) dX7_check_55 (by decide) ?_
          refine cf_sub C [1, 2, 0] rfl ?_
          exact ih x1 v7 _ hm
        · refine cf_iconst C dX7_check_48 (v := 1) rfl ?_
          refine cf_iload_n C dX7_check_49 rfl 2 rfl ?_
          refine cf_iadd C dX7_check_50 ?_
          exact hR _ _ _ _ dX7_check_51 hm
def E_X7_check  (S : St) (Q : Int32 → St → Prop) : Prop := vp_in 4 387 ∧ (nmI (S.2 17 0 (4 : Int32).toNatClampNeg) (fun v1 => vp_in 4 387 ∧ (nmS (stR S 17 0 (upd (S.2 17 0) (4 : Int32).toNatClampNeg 0)) (fun S2 => ∃ k, L_X7_check_16 Q k v1 0 S2))))
set_option maxRecDepth 20000 in
theorem c_X7_check (l : Launch) (G : GX)  (S : St) (Q : Int32 → St → Prop)  (hm : E_X7_check  S Q) : CTi l yX7_check (Cond.code yX7_check cX7_check 3 (some .int) :: AW) { frames := 2, cells := 0, slots := 0, locals := 43 } G enM [.ref (adr G 17 0)] S Q := by
  refine ct_start_i (by decide) enM_nd (Nat.le_of_ble_eq_true rfl) (fun E hG hl C hR => ?_)
  subst hG
  subst hl
  show CF E S 0 [(0, .ref (adr (vG E) 17 0))] []
  unfold E_X7_check at hm
  refine cf_aload_n C dX7_check_0 rfl 0 rfl ?_
  refine gf_7_0 C inX7 okM_17 q694 dX7_check_1 ?_
  refine cf_iconst C dX7_check_4 (v := 4) rfl ?_
  refine cf_iald C (okA_of 0 okM_17 rfl (by decide) (by decide) (by decide)) dX7_check_5 hm (fun hm => ?_)
  refine cf_nmI hm (fun v1 hm => ?_)
  refine cf_istore_n C (L1 := [(1, .int v1), (0, .ref (adr (vG E) 17 0))]) dX7_check_6 rfl (by decide) rfl ?_
  refine cf_aload_n C dX7_check_7 rfl 1 rfl ?_
  refine gf_7_0 C inX7 okM_17 q694 dX7_check_8 ?_
  refine cf_iconst C dX7_check_11 (v := 4) rfl ?_
  refine cf_iconst C dX7_check_12 (v := 0) rfl ?_
  refine cf_iast C (okA_of 0 okM_17 rfl (by decide) (by decide) (by decide)) dX7_check_13 hm (fun hm => ?_)
  refine cf_nmS hm (fun S2 hm => ?_)
  refine cf_iconst C dX7_check_14 (v := 0) rfl ?_
  refine cf_istore_n C (L1 := [(2, .int 0), (1, .int v1), (0, .ref (adr (vG E) 17 0))]) dX7_check_15 rfl (by decide) rfl ?_
  refine cf_sub C [2, 1, 0] rfl ?_
  obtain ⟨k, hm⟩ := hm
  exact w_L_X7_check_16 C hR k v1 0 _ hm

def E_X7_count (x1 : Int32) (S : St) (Q : Int32 → St → Prop) : Prop := if x1 = 0 then (vp_in 5 387 ∧ (Q (S.2 17 0 (5 : Int32).toNatClampNeg) S)) else (if x1 = 1 then (E_X7_allLeft S (fun v2 S1 => Q v2 S1)) else (if x1 = 2 then (vp_in 0 387 ∧ (Q (S.2 17 0 (0 : Int32).toNatClampNeg) S)) else (if x1 = 3 then (vp_in 1 387 ∧ (Q (S.2 17 0 (1 : Int32).toNatClampNeg) S)) else (if x1 = 4 then (vp_in 3 387 ∧ (Q (S.2 17 0 (3 : Int32).toNatClampNeg) S)) else (if x1 = 5 then (vp_in 4 387 ∧ (Q (S.2 17 0 (4 : Int32).toNatClampNeg) S)) else (if x1 = 6 then (Q (S.1 17 14) S) else (if x1 = 7 then (vp_in 2 387 ∧ (Q (S.2 17 0 (2 : Int32).toNatClampNeg) S)) else (E_X7_error 1 S (fun v4 S3 => Q v4 S3)))))))))
set_option maxRecDepth 20000 in
theorem c_X7_count (l : Launch) (G : GX) (x1 : Int32) (S : St) (Q : Int32 → St → Prop)  (hm : E_X7_count x1 S Q) : CTi l yX7_count (Cond.code yX7_count cX7_count 2 (some .int) :: AW) { frames := 2, cells := 0, slots := 0, locals := 44 } G enM [.ref (adr G 17 0), .int x1] S Q := by
  refine ct_start_i (by decide) enM_nd (Nat.le_of_ble_eq_true rfl) (fun E hG hl C hR => ?_)
  subst hG
  subst hl
  show CF E S 0 [(0, .ref (adr (vG E) 17 0)), (1, .int x1)] []
  unfold E_X7_count at hm
  refine cf_iload_n C dX7_count_0 rfl 1 rfl ?_
  rcases ifc hm with ⟨hx, hm⟩ | ⟨h1_0, hm⟩
  · refine cf_tsIn C 0 dX7_count_1 (by rw [hx]; rfl) (by decide) (by decide) (off := 47) (by rfl) (tgt := 48) (by decide) ?_
    refine cf_aload_n C dX7_count_48 rfl 0 rfl ?_
    refine gf_7_0 C inX7 okM_17 q694 dX7_count_49 ?_
    refine cf_iconst C dX7_count_52 (v := 5) rfl ?_
    refine cf_iald C (okA_of 0 okM_17 rfl (by decide) (by decide) (by decide)) dX7_count_53 hm (fun hm => ?_)
    exact hR _ _ _ _ dX7_count_54 hm
  rcases ifc hm with ⟨hx, hm⟩ | ⟨h1_1, hm⟩
  · refine cf_tsIn C 1 dX7_count_1 (by rw [hx]; rfl) (by decide) (by decide) (off := 54) (by rfl) (tgt := 55) (by decide) ?_
    refine cf_aload_n C dX7_count_55 rfl 0 rfl ?_
    refine cf_callVi C [] [] okM_17.1 (ocell_7 okM_17.2.1) rfl q955 q48 (c_X7_allLeft (vL E) (vG E)  _ _  hm) q953 q956 q72 md_X7_allLeft (Nat.le_of_ble_eq_true rfl) (Nat.le_of_ble_eq_true rfl) rfl rfl (Nat.le_of_ble_eq_true rfl) dX7_count_56 (fun v2 S1 hm => ?_)
    exact hR _ _ _ _ dX7_count_59 hm
  rcases ifc hm with ⟨hx, hm⟩ | ⟨h1_2, hm⟩
  · refine cf_tsIn C 2 dX7_count_1 (by rw [hx]; rfl) (by decide) (by decide) (off := 59) (by rfl) (tgt := 60) (by decide) ?_
    refine cf_aload_n C dX7_count_60 rfl 0 rfl ?_
    refine gf_7_0 C inX7 okM_17 q694 dX7_count_61 ?_
    refine cf_iconst C dX7_count_64 (v := 0) rfl ?_
    refine cf_iald C (okA_of 0 okM_17 rfl (by decide) (by decide) (by decide)) dX7_count_65 hm (fun hm => ?_)
    exact hR _ _ _ _ dX7_count_66 hm
  rcases ifc hm with ⟨hx, hm⟩ | ⟨h1_3, hm⟩
  · refine cf_tsIn C 3 dX7_count_1 (by rw [hx]; rfl) (by decide) (by decide) (off := 66) (by rfl) (tgt := 67) (by decide) ?_
    refine cf_aload_n C dX7_count_67 rfl 0 rfl ?_
    refine gf_7_0 C inX7 okM_17 q694 dX7_count_68 ?_
    refine cf_iconst C dX7_count_71 (v := 1) rfl ?_
    refine cf_iald C (okA_of 0 okM_17 rfl (by decide) (by decide) (by decide)) dX7_count_72 hm (fun hm => ?_)
    exact hR _ _ _ _ dX7_count_73 hm
  rcases ifc hm with ⟨hx, hm⟩ | ⟨h1_4, hm⟩
  · refine cf_tsIn C 4 dX7_count_1 (by rw [hx]; rfl) (by decide) (by decide) (off := 73) (by rfl) (tgt := 74) (by decide) ?_
    refine cf_aload_n C dX7_count_74 rfl 0 rfl ?_
    refine gf_7_0 C inX7 okM_17 q694 dX7_count_75 ?_
    refine cf_iconst C dX7_count_78 (v := 3) rfl ?_
    refine cf_iald C (okA_of 0 okM_17 rfl (by decide) (by decide) (by decide)) dX7_count_79 hm (fun hm => ?_)
    exact hR _ _ _ _ dX7_count_80 hm
  rcases ifc hm with ⟨hx, hm⟩ | ⟨h1_5, hm⟩
  · refine cf_tsIn C 5 dX7_count_1 (by rw [hx]; rfl) (by decide) (by decide) (off := 80) (by rfl) (tgt := 81) (by decide) ?_
    refine cf_aload_n C dX7_count_81 rfl 0 rfl ?_
    refine gf_7_0 C inX7 okM_17 q694 dX7_count_82 ?_
    refine cf_iconst C dX7_count_85 (v := 4) rfl ?_
    refine cf_iald C (okA_of 0 okM_17 rfl (by decide) (by decide) (by decide)) dX7_count_86 hm (fun hm => ?_)
    exact hR _ _ _ _ dX7_count_87 hm
  rcases ifc hm with ⟨hx, hm⟩ | ⟨h1_6, hm⟩
  · refine cf_tsIn C 6 dX7_count_1 (by rw [hx]; rfl) (by decide) (by decide) (off := 87) (by rfl) (tgt := 88) (by decide) ?_
    refine cf_aload_n C dX7_count_88 rfl 0 rfl ?_
    refine gf_7_14 C inX7 okM_17 q708 dX7_count_89 ?_
    exact hR _ _ _ _ dX7_count_92 hm
  rcases ifc hm with ⟨hx, hm⟩ | ⟨h1_7, hm⟩
  · refine cf_tsIn C 7 dX7_count_1 (by rw [hx]; rfl) (by decide) (by decide) (off := 92) (by rfl) (tgt := 93) (by decide) ?_
    refine cf_aload_n C dX7_count_93 rfl 0 rfl ?_
    refine gf_7_0 C inX7 okM_17 q694 dX7_count_94 ?_
    refine cf_iconst C dX7_count_97 (v := 2) rfl ?_
    refine cf_iald C (okA_of 0 okM_17 rfl (by decide) (by decide) (by decide)) dX7_count_98 hm (fun hm => ?_)
    exact hR _ _ _ _ dX7_count_99 hm
  refine cf_tsD C 8 [0, 1, 2, 3, 4, 5, 6, 7] dX7_count_1 (by decide) (by decide +kernel) (List.forall_mem_cons.mpr ⟨lv_neT h1_0 rfl, (List.forall_mem_cons.mpr ⟨lv_neT h1_1 rfl, (List.forall_mem_cons.mpr ⟨lv_neT h1_2 rfl, (List.forall_mem_cons.mpr ⟨lv_neT h1_3 rfl, (List.forall_mem_cons.mpr ⟨lv_neT h1_4 rfl, (List.forall_mem_cons.mpr ⟨lv_neT h1_5 rfl, (List.forall_mem_cons.mpr ⟨lv_neT h1_6 rfl, (List.forall_mem_cons.mpr ⟨lv_neT h1_7 rfl, (fun _ h => absurd h List.not_mem_nil)⟩)⟩)⟩)⟩)⟩)⟩)⟩)⟩) (tgt := 100) (by decide) ?_
  refine cf_aload_n C dX7_count_100 rfl 0 rfl ?_
  refine cf_iconst C dX7_count_101 (v := 1) rfl ?_
  refine cf_callVi C [.int 1] [] okM_17.1 (ocell_7 okM_17.2.1) rfl q771 q19 (c_X7_error (vL E) (vG E) 1 _ _  hm) q769 q772 q72 md_X7_error (Nat.le_of_ble_eq_true rfl) (Nat.le_of_ble_eq_true rfl) rfl rfl (Nat.le_of_ble_eq_true rfl) dX7_count_102 (fun v4 S3 hm => ?_)
  exact hR _ _ _ _ dX7_count_105 hm

def E_X7_told (x1 : Int32) (S : St) (Q : Int32 → St → Prop) : Prop := E_X7_in x1 1 6 S (fun v2 S1 => if v2 = 0 then (E_X7_error 1 S1 (fun v4 S3 => Q v4 S3)) else (vp_in x1 7 ∧ (Q (S1.2 17 4 x1.toNatClampNeg) S1)))
set_option maxRecDepth 20000 in
theorem c_X7_told (l : Launch) (G : GX) (x1 : Int32) (S : St) (Q : Int32 → St → Prop)  (hm : E_X7_told x1 S Q) : CTi l yX7_told (Cond.code yX7_told cX7_told 2 (some .int) :: AW) { frames := 1, cells := 0, slots := 0, locals := 22 } G enM [.ref (adr G 17 0), .int x1] S Q := by
  refine ct_start_i (by decide) enM_nd (Nat.le_of_ble_eq_true rfl) (fun E hG hl C hR => ?_)
  subst hG
  subst hl
  show CF E S 0 [(0, .ref (adr (vG E) 17 0)), (1, .int x1)] []
  unfold E_X7_told at hm
  refine cf_iload_n C dX7_told_0 rfl 1 rfl ?_
  refine cf_iconst C dX7_told_1 (v := 1) rfl ?_
  refine cf_bipush C dX7_told_2 (v := 6) rfl ?_
  refine cf_callSi C [.int x1, .int 1, .int 6] [] q767 (c_X7_in (vL E) (vG E) x1 1 6 _ _  hm) q766 q768 q72 md_X7_in (Nat.le_of_ble_eq_true rfl) (Nat.le_of_ble_eq_true rfl) rfl rfl (Nat.le_of_ble_eq_true rfl) dX7_told_4 (fun v2 S1 hm => ?_)
  refine cf_if_eq C (tgt := 19) dX7_told_7 (by decide) hm (fun hm => ?_) (fun hm => ?_)
  · refine cf_aload_n C dX7_told_19 rfl 0 rfl ?_
    refine cf_iconst C dX7_told_20 (v := 1) rfl ?_
    refine cf_callVi C [.int 1] [] okM_17.1 (ocell_7 okM_17.2.1) rfl q771 q19 (c_X7_error (vL E) (vG E) 1 _ _  hm) q769 q772 q72 md_X7_error (Nat.le_of_ble_eq_true rfl) (Nat.le_of_ble_eq_true rfl) rfl rfl (Nat.le_of_ble_eq_true rfl) dX7_told_21 (fun v4 S3 hm => ?_)
    exact hR _ _ _ _ dX7_told_24 hm
  · refine cf_aload_n C dX7_told_10 rfl 0 rfl ?_
    refine gf_7_4 C inX7 okM_17 q698 dX7_told_11 ?_
    refine cf_iload_n C dX7_told_14 rfl 1 rfl ?_
    refine cf_iald C (okA_of 4 okM_17 rfl (by decide) (by decide) (by decide)) dX7_told_15 hm (fun hm => ?_)
    refine cf_goto C (tgt := 24) dX7_told_16 (by decide) ?_
    exact hR _ _ _ _ dX7_told_24 hm
