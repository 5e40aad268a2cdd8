def J_X7_brings_99   (K57 : Int32 → Int32 → Int32 → Int32 → Int32 → St → Prop) (Q : Int32 → St → Prop) (x1 : Int32) (x2 : Int32) (x4 : Int32) (x5 : Int32) (x6 : Int32) (t0 : Int32) (S : St) : Prop := if x6 ≤ x4 then (nmI (x5 + 1) (fun v16 => K57 x1 x2 t0 x4 v16 S)) else (nmI (x5 + 1) (fun v17 => K57 x1 x2 t0 x6 v17 S))
set_option maxRecDepth 20000 in
theorem w_J_X7_brings_99 {E : EV} {Q : Int32 → St → Prop}   (C : CX E cX7_brings RX7 7 enM 6 137)   (hR : RTi E cX7_brings Q) {K57 : Int32 → Int32 → Int32 → Int32 → Int32 → St → Prop} (hK57 : ∀ (x1 : Int32) (x2 : Int32) (x3 : Int32) (x4 : Int32) (x5 : Int32) (S : St), K57 x1 x2 x3 x4 x5 S → CF E S 57 [(0, .ref (adr (vG E) 17 0)), (1, .int x1), (2, .int x2), (3, .int x3), (4, .int x4), (5, .int x5)] []) : ∀ (x1 : Int32) (x2 : Int32) (x4 : Int32) (x5 : Int32) (x6 : Int32) (t0 : Int32) (S : St), J_X7_brings_99 K57 Q x1 x2 x4 x5 x6 t0 S → CF E S 99 [(0, .ref (adr (vG E) 17 0)), (1, .int x1), (2, .int x2), (4, .int x4), (5, .int x5), (6, .int x6)] [.int t0] := by
  intro x1 x2 x4 x5 x6 t0 S hm
  unfold J_X7_brings_99 at hm
  refine cf_istore_n C (L1 := [(3, .int t0), (0, .ref (adr (vG E) 17 0)), (1, .int x1), (2, .int x2), (4, .int x4), (5, .int x5), (6, .int x6)]) dX7_brings_99 rfl (by decide) rfl ?_
  refine cf_iload C dX7_brings_100 6 rfl ?_
  refine cf_iload C dX7_brings_102 4 rfl ?_
  refine cf_icmp_le C (tgt := 112) dX7_brings_104 (by decide) hm (fun hm => ?_) (fun hm => ?_)
  · refine cf_iload C dX7_brings_112 4 rfl ?_
    refine cf_istore C (L1 := [(4, .int x4), (3, .int t0), (0, .ref (adr (vG E) 17 0)), (1, .int x1), (2, .int x2), (5, .int x5), (6, .int x6)]) dX7_brings_114 (by decide) rfl ?_
    refine cf_iincN C (L1 := fun v16 => [(5, .int v16), (4, .int x4), (3, .int t0), (0, .ref (adr (vG E) 17 0)), (1, .int x1), (2, .int x2), (6, .int x6)]) dX7_brings_116 5 rfl rfl (by decide) (fun _ => rfl) hm (fun v16 hm => ?_)
    refine cf_goto C (tgt := 57) dX7_brings_119 (by decide) ?_
    refine cf_sub C [3, 4, 5, 2, 1, 0] rfl ?_
    exact hK57 x1 x2 t0 x4 v16 _ hm
  · refine cf_iload C dX7_brings_107 6 rfl ?_
    refine cf_goto C (tgt := 114) dX7_brings_109 (by decide) ?_
    refine cf_istore C (L1 := [(4, .int x6), (3, .int t0), (0, .ref (adr (vG E) 17 0)), (1, .int x1), (2, .int x2), (5, .int x5), (6, .int x6)]) dX7_brings_114 (by decide) rfl ?_
    refine cf_iincN C (L1 := fun v17 => [(5, .int v17), (4, .int x6), (3, .int t0), (0, .ref (adr (vG E) 17 0)), (1, .int x1), (2, .int x2), (6, .int x6)]) dX7_brings_116 5 rfl rfl (by decide) (fun _ => rfl) hm (fun v17 hm => ?_)
    refine cf_goto C (tgt := 57) dX7_brings_119 (by decide) ?_
    refine cf_sub C [3, 4, 5, 2, 1, 0] rfl ?_
    exact hK57 x1 x2 t0 x6 v17 _ hm
def L_X7_brings_57    (Q : Int32 → St → Prop) : Nat → Int32 → Int32 → Int32 → Int32 → Int32 → St → Prop
  | 0 => fun _ _ _ _ _ _ => False
  | n + 1 => fun x1 x2 x3 x4 x5 S => if 10 ≤ x5 then (if x2 = 0 then (Q x3 S) else (Q x4 S)) else (E_X7_layDown S (fun S11 => E_X7_laysDish 0 x1 x5 S11 (fun S12 => E_X7_keepingSizes S12 (fun v14 S13 => E_X7_layBack S13 (fun S15 => if v14 ≤ x4 then (J_X7_brings_99 (L_X7_brings_57 Q n) Q x1 x2 x4 x5 v14 x3 S15) else (J_X7_brings_99 (L_X7_brings_57 Q n) Q x1 x2 x4 x5 v14 x5 S15))))))
set_option maxRecDepth 20000 in
theorem w_L_X7_brings_57 {E : EV} {Q : Int32 → St → Prop}   (C : CX E cX7_brings RX7 7 enM 6 137)   (hR : RTi E cX7_brings Q) : ∀ (n : Nat) (x1 : Int32) (x2 : Int32) (x3 : Int32) (x4 : Int32) (x5 : Int32) (S : St), L_X7_brings_57 Q n x1 x2 x3 x4 x5 S → CF E S 57 [(0, .ref (adr (vG E) 17 0)), (1, .int x1), (2, .int x2), (3, .int x3), (4, .int x4), (5, .int x5)] [] := by
  intro n
  induction n with
  | zero =>
    intro x1 x2 x3 x4 x5 S hm
    exact hm.elim
  | succ n ih =>
    intro x1 x2 x3 x4 x5 S hm
    unfold L_X7_brings_57 at hm
    refine cf_iload C dX7_brings_57 5 rfl ?_
    refine cf_bipush C dX7_brings_59 (v := 10) rfl ?_
    refine cf_icmp_ge C (tgt := 122) dX7_brings_61 (by decide) hm (fun hm => ?_) (fun hm => ?_)
    · refine cf_iload_n C dX7_brings_122 rfl 2 rfl ?_
      refine cf_if_ne C (tgt := 130) dX7_brings_123 (by decide) hm (fun hm => ?_) (fun hm => ?_)
      · refine cf_iload C dX7_brings_130 4 rfl ?_
        exact hR _ _ _ _ dX7_brings_132 hm
      · refine cf_iload_n C dX7_brings_126 rfl 3 rfl ?_
        refine cf_goto C (tgt := 132) dX7_brings_127 (by decide) ?_
        exact hR _ _ _ _ dX7_brings_132 hm
    · refine cf_aload_n C dX7_brings_64 rfl 0 rfl ?_
      refine cf_callVv C [] [] okM_17.1 (ocell_7 okM_17.2.1) rfl q980 q51 (c_X7_layDown (vL E) (vG E)  _ _  hm) q978 q981 q72 md_X7_layDown (Nat.le_of_ble_eq_true rfl) (Nat.le_of_ble_eq_true rfl) rfl rfl (Nat.le_of_ble_eq_true rfl) dX7_brings_65 (fun S11 hm => ?_)
      refine cf_aload_n C dX7_brings_68 rfl 0 rfl ?_
      refine cf_iconst C dX7_brings_69 (v := 0) rfl ?_
      refine cf_iload_n C dX7_brings_70 rfl 1 rfl ?_
      refine cf_iload C dX7_brings_71 5 rfl ?_
      refine cf_callVv C [.int 0, .int x1, .int x5] [] okM_17.1 (ocell_7 okM_17.2.1) rfl q836 q31 (c_X7_laysDish (vL E) (vG E) 0 x1 x5 _ _  hm) q834 q837 q72 md_X7_laysDish (Nat.le_of_ble_eq_true rfl) (Nat.le_of_ble_eq_true rfl) rfl rfl (Nat.le_of_ble_eq_true rfl) dX7_brings_73 (fun S12 hm => ?_)
      refine cf_aload_n C dX7_brings_76 rfl 0 rfl ?_
      refine cf_callVi C [] [] okM_17.1 (ocell_7 okM_17.2.1) rfl q1011 q54 (c_X7_keepingSizes (vL E) (vG E)  _ _  hm) q1009 q1012 q72 md_X7_keepingSizes (Nat.le_of_ble_eq_true rfl) (Nat.le_of_ble_eq_true rfl) rfl rfl (Nat.le_of_ble_eq_true rfl) dX7_brings_77 (fun v14 S13 hm => ?_)
      refine cf_istore C (L1 := [(6, .int v14), (0, .ref (adr (vG E) 17 0)), (1, .int x1), (2, .int x2), (3, .int x3), (4, .int x4), (5, .int x5)]) dX7_brings_80 (by decide) rfl ?_
      refine cf_aload_n C dX7_brings_82 rfl 1 rfl ?_
      refine cf_callVv C [] [] okM_17.1 (ocell_7 okM_17.2.1) rfl q984 q52 (c_X7_layBack (vL E) (vG E)  _ _  hm) q982 q985 q72 md_X7_layBack (Nat.le_of_ble_eq_true rfl) (Nat.le_of_ble_eq_true rfl) rfl rfl (Nat.le_of_ble_eq_true rfl) dX7_brings_83 (fun S15 hm => ?_)
      refine cf_iload C dX7_brings_86 0 rfl ?_
      refine cf_iload C dX7_brings_88 5 rfl ?_
      refine cf_icmp_le C (tgt := 98) dX7_brings_90 (by decide) hm (fun hm => ?_) (fun hm => ?_)
      · refine cf_iload_n C dX7_brings_98 rfl 4 rfl ?_
        refine cf_sub C [1, 2, 3, 5, 6, 0] rfl ?_
        exact w_J_X7_brings_99 C hR ih x1 x2 x4 x5 v14 x3 _ hm
      · refine cf_iload C dX7_brings_93 6 rfl ?_
        refine cf_goto C (tgt := 99) dX7_brings_95 (by decide) ?_
        refine cf_sub C [1, 2, 3, 5, 6, 0] rfl ?_
        exact w_J_X7_brings_99 C hR ih x1 x2 x4 x5 v14 x5 _ hm
def E_X7_brings (x1 : Int32) (x2 : Int32) (S : St) (Q : Int32 → St → Prop) : Prop := E_X7_in x1 1 99 S (fun v2 S1 => if v2 = 0 then (E_X7_error 1 S1 (fun v4 S3 => Q v4 S3)) else (E_X7_in x2 0 1 S1 (fun v6 S5 => if v6 = 0 then (E_X7_error 1 S5 (fun v21 S20 => Q v21 S20)) else (vp_in 5 387 ∧ (if (S5.2 17 0 (5 : Int32).toNatClampNeg) = 9 then (E_X7_error 3 S5 (fun v8 S7 => Q v8 S7)) else (E_X7_allLeft S5 (fun v10 S9 => if v10 = 0 then (E_X7_error 3 S9 (fun v19 S18 => Q v19 S18)) else (∃ k, L_X7_brings_57 Q k x1 x2 0 (-1) 0 S9))))))))
set_option maxRecDepth 20000 in
theorem c_X7_brings (l : Launch) (G : GX) (x1 : Int32) (x2 : Int32) (S : St) (Q : Int32 → St → Prop)  (hm : E_X7_brings x1 x2 S Q) : CTi l yX7_brings (Cond.code yX7_brings cX7_brings 7 (some .int) :: AW) { frames := 6, cells := 0, slots := 0, locals := 137 } G enM [.ref (adr G 17 0), .int x1, .int x2] S Q := by
  refine ct_start_i (by decide) enM_nd (Nat.le_of_ble_eq_true rfl) (fun E hG hl C hR => ?_)
  subst hG
  subst hl
  show CF E S 0 [(0, .ref (adr (vG E) 17 0)), (1, .int x1), (2, .int x2)] []
  unfold E_X7_brings at hm
  refine cf_iload_n C dX7_brings_0 rfl 1 rfl ?_
  refine cf_iconst C dX7_brings_1 (v := 1) rfl ?_
  refine cf_bipush C dX7_brings_2 (v := 99) rfl ?_
  refine cf_callSi C [.int x1, .int 1, .int 99] [] q767 (c_X7_in (vL E) (vG E) x1 1 99 _ _  hm) q766 q768 q72 md_X7_in (Nat.le_of_ble_eq_true rfl) (Nat.le_of_ble_eq_true rfl) rfl rfl (Nat.le_of_ble_eq_true rfl) dX7_brings_4 (fun v2 S1 hm => ?_)
  refine cf_if_eq C (tgt := 19) dX7_brings_7 (by decide) hm (fun hm => ?_) (fun hm => ?_)
  · refine cf_aload_n C dX7_brings_19 rfl 0 rfl ?_
    refine cf_iconst C dX7_brings_20 (v := 1) rfl ?_
    refine cf_callVi C [.int 1] [] okM_17.1 (ocell_7 okM_17.2.1) rfl q771 q19 (c_X7_error (vL E) (vG E) 1 _ _  hm) q769 q772 q72 md_X7_error (Nat.le_of_ble_eq_true rfl) (Nat.le_of_ble_eq_true rfl) rfl rfl (Nat.le_of_ble_eq_true rfl) dX7_brings_21 (fun v4 S3 hm => ?_)
    exact hR _ _ _ _ dX7_brings_24 hm
  · refine cf_iload_n C dX7_brings_10 rfl 2 rfl ?_
    refine cf_iconst C dX7_brings_11 (v := 0) rfl ?_
    refine cf_iconst C dX7_brings_12 (v := 1) rfl ?_
    refine cf_callSi C [.int x2, .int 0, .int 1] [] q767 (c_X7_in (vL E) (vG E) x2 0 1 _ _  hm) q766 q768 q72 md_X7_in (Nat.le_of_ble_eq_true rfl) (Nat.le_of_ble_eq_true rfl) rfl rfl (Nat.le_of_ble_eq_true rfl) dX7_brings_13 (fun v6 S5 hm => ?_)
    refine cf_if_ne C (tgt := 25) dX7_brings_16 (by decide) hm (fun hm => ?_) (fun hm => ?_)
    · refine cf_aload_n C dX7_brings_25 rfl 0 rfl ?_
      refine gf_7_0 C inX7 okM_17 q694 dX7_brings_26 ?_
      refine cf_iconst C dX7_brings_29 (v := 5) rfl ?_
      refine cf_iald C (okA_of 0 okM_17 rfl (by decide) (by decide) (by decide)) dX7_brings_30 hm (fun hm => ?_)
      refine cf_bipush C dX7_brings_31 (v := 9) rfl ?_
      refine cf_icmp_eq C (tgt := 43) dX7_brings_33 (by decide) hm (fun hm => ?_) (fun hm => ?_)
      · refine cf_aload_n C dX7_brings_43 rfl 0 rfl ?_
        refine cf_iconst C dX7_brings_44 (v := 3) rfl ?_
        refine cf_callVi C [.int 3] [] okM_17.1 (ocell_7 okM_17.2.1) rfl q771 q19 (c_X7_error (vL E) (vG E) 3 _ _  hm) q769 q772 q72 md_X7_error (Nat.le_of_ble_eq_true rfl) (Nat.le_of_ble_eq_true rfl) rfl rfl (Nat.le_of_ble_eq_true rfl) dX7_brings_45 (fun v8 S7 hm => ?_)
        exact hR _ _ _ _ dX7_brings_48 hm
      · refine cf_aload_n C dX7_brings_36 rfl 0 rfl ?_
        refine cf_callVi C [] [] okM_17.1 (ocell_7 okM_17.2.1) rfl q955 q48 (c_X7_allLeft (vL E) (vG E)  _ _  hm) q953 q956 q72 md_X7_allLeft (Nat.le_of_ble_eq_true rfl) (Nat.le_of_ble_eq_true rfl) rfl rfl (Nat.le_of_ble_eq_true rfl) dX7_brings_37 (fun v10 S9 hm => ?_)
        refine cf_if_ne C (tgt := 49) dX7_brings_40 (by decide) hm (fun hm => ?_) (fun hm => ?_)
        · refine cf_iconst C dX7_brings_49 (v := 0) rfl ?_
          refine cf_istore_n C (L1 := [(3, .int 0), (0, .ref (adr (vG E) 17 0)), (1, .int x1), (2, .int x2)]) dX7_brings_50 rfl (by decide) rfl ?_
          refine cf_iconst C dX7_brings_51 (v := (-1)) rfl ?_
          refine cf_istore C (L1 := [(4, .int ((-1))), (3, .int 0), (0, .ref (adr (vG E) 17 0)), (1, .int x1), (2, .int x2)]) dX7_brings_52 (by decide) rfl ?_
          refine cf_iconst C dX7_brings_54 (v := 0) rfl ?_
          refine cf_istore C (L1 := [(5, .int 0), (4, .int ((-1))), (3, .int 0), (0, .ref (adr (vG E) 17 0)), (1, .int x1), (2, .int x2)]) dX7_brings_55 (by decide) rfl ?_
          refine cf_sub C [3, 4, 5, 2, 1, 0] rfl ?_
          obtain ⟨k, hm⟩ := hm
          exact w_L_X7_brings_57 C hR k x1 x2 0 (-1) 0 _ hm
        · refine cf_aload_n C dX7_brings_43 rfl 0 rfl ?_
          refine cf_iconst C dX7_brings_44 (v := 3) rfl ?_
          refine cf_callVi C [.int 3] [] okM_17.1 (ocell_7 okM_17.2.1) rfl q771 q19 (c_X7_error (vL E) (vG E) 3 _ _  hm) q769 q772 q72 md_X7_error (Nat.le_of_ble_eq_true rfl) (Nat.le_of_ble_eq_true rfl) rfl rfl (Nat.le_of_ble_eq_true rfl) dX7_brings_45 (fun v19 S18 hm => ?_)
          exact hR _ _ _ _ dX7_brings_48 hm
    · refine cf_aload_n C dX7_brings_19 rfl 0 rfl ?_
      refine cf_iconst C dX7_brings_20 (v := 1) rfl ?_
      refine cf_callVi C [.int 1] [] okM_17.1 (ocell_7 okM_17.2.1) rfl q771 q19 (c_X7_error (vL E) (vG E) 1 _ _  hm) q769 q772 q72 md_X7_error (Nat.le_of_ble_eq_true rfl) (Nat.le_of_ble_eq_true rfl) rfl rfl (Nat.le_of_ble_eq_true rfl) dX7_brings_21 (fun v21 S20 hm => ?_)
      exact hR _ _ _ _ dX7_brings_24 hm

def L_X7_divisor_4    (Q : Int32 → St → Prop) : Nat → Int32 → Int32 → St → Prop
  | 0 => fun _ _ _ => False
  | n + 1 => fun x2 x3 S => if x3 = 0 then (Q x2 S) else ((¬ x3 = 0) ∧ (nmI (x2 - x2 / x3 * x3) (fun v1 => L_X7_divisor_4 Q n x3 v1 S)))
set_option maxRecDepth 20000 in
theorem w_L_X7_divisor_4 {E : EV} {Q : Int32 → St → Prop}   (C : CX E cX7_divisor RX7 5 enM 0 0)   (hR : RTi E cX7_divisor Q) : ∀ (n : Nat) (x2 : Int32) (x3 : Int32) (S : St), L_X7_divisor_4 Q n x2 x3 S → CF E S 4 [(2, .int x2), (3, .int x3)] [] := by
  intro n
  induction n with
  | zero =>
    intro x2 x3 S hm
    exact hm.elim
  | succ n ih =>
    intro x2 x3 S hm
    unfold L_X7_divisor_4 at hm
    refine cf_iload_n C dX7_divisor_4 rfl 1 rfl ?_
    refine cf_if_eq C (tgt := 21) dX7_divisor_5 (by decide) hm (fun hm => ?_) (fun hm => ?_)
    · refine cf_iload_n C dX7_divisor_21 rfl 0 rfl ?_
      exact hR _ _ _ _ dX7_divisor_22 hm
    · refine cf_iload_n C dX7_divisor_8 rfl 0 rfl ?_
      refine cf_iload_n C dX7_divisor_9 rfl 1 rfl ?_
      refine cf_irem C dX7_divisor_10 hm (fun hm => ?_)
      refine cf_nmI hm (fun v1 hm => ?_)
      refine cf_istore C (L1 := [(4, .int v1), (2, .int x2), (3, .int x3)]) dX7_divisor_11 (by decide) rfl ?_
      refine cf_iload_n C dX7_divisor_13 rfl 2 rfl ?_
      refine cf_istore_n C (L1 := [(2, .int x3), (4, .int v1), (3, .int x3)]) dX7_divisor_14 rfl (by decide) rfl ?_
      refine cf_iload C dX7_divisor_15 1 rfl ?_
      refine cf_istore_n C (L1 := [(3, .int v1), (2, .int x3), (4, .int v1)]) dX7_divisor_17 rfl (by decide) rfl ?_
      refine cf_goto C (tgt := 4) dX7_divisor_18 (by decide) ?_
      refine cf_sub C [1, 0] rfl ?_
      exact ih x3 v1 _ hm
def E_X7_divisor (x0 : Int32) (x1 : Int32) (S : St) (Q : Int32 → St → Prop) : Prop := ∃ k, L_X7_divisor_4 Q k x0 x1 S
set_option maxRecDepth 20000 in
theorem c_X7_divisor (l : Launch) (G : GX) (x0 : Int32) (x1 : Int32) (S : St) (Q : Int32 → St → Prop)  (hm : E_X7_divisor x0 x1 S Q) : CTi l yX7_divisor (Cond.code yX7_divisor cX7_divisor 5 (some .int) :: AW) { frames := 0, cells := 0, slots := 0, locals := 0 } G enM [.int x0, .int x1] S Q := by
  refine ct_start_i (by decide) enM_nd (Nat.le_of_ble_eq_true rfl) (fun E hG hl C hR => ?_)
  subst hG
  subst hl
  show CF E S 0 [(0, .int x0), (1, .int x1)] []
  unfold E_X7_divisor at hm
  refine cf_iload_n C dX7_divisor_0 rfl 0 rfl ?_
  refine cf_istore_n C (L1 := [(2, .int x0), (0, .int x0), (1, .int x1)]) dX7_divisor_1 rfl (by decide) rfl ?_
  refine cf_iload_n C dX7_divisor_2 rfl 2 rfl ?_
  refine cf_istore_n C (L1 := [(3, .int x1), (2, .int x0), (0, .int x0), (1, .int x1)]) dX7_divisor_3 rfl (by decide) rfl ?_
  refine cf_sub C [1, 0] rfl ?_
  obtain ⟨k, hm⟩ := hm
  exact w_L_X7_divisor_4 C hR k x0 x1 _ hm

def E_X7_odds (x1 : Int32) (S : St) (Q : Int32 → St → Prop) : Prop := E_X7_in x1 0 1 S (fun v2 S1 => if v2 = 0 then (E_X7_error 1 S1 (fun v12 S11 => Q v12 S11)) else (E_X7_allLeft S1 (fun v4 S3 => if v4 = 0 then (E_X7_error 3 S3 (fun v10 S9 => Q v10 S9)) else (E_X7_keepingSizes S3 (fun v6 S5 => E_X7_divisor v6 v4 S5 (fun v8 S7 => if x1 = 0 then ((¬ v8 = 0) ∧ (Q (v6 / v8) S7)) else ((¬ v8 = 0) ∧ (Q (v4 / v8) S7))))))))
set_option maxRecDepth 20000 in
theorem c_X7_odds (l : Launch) (G : GX) (x1 : Int32) (S : St) (Q : Int32 → St → Prop)  (hm : E_X7_odds x1 S Q) : CTi l yX7_odds (Cond.code yX7_odds cX7_odds 5 (some .int) :: AW) { frames := 6, cells := 0, slots := 0, locals := 137 } G enM [.ref (adr G 17 0), .int x1] S Q := by
  refine ct_start_i (by decide) enM_nd (Nat.le_of_ble_eq_true rfl) (fun E hG hl C hR => ?_)
  subst hG
  subst hl
  show CF E S 0 [(0, .ref (adr (vG E) 17 0)), (1, .int x1)] []
  unfold E_X7_odds at hm
  refine cf_iload_n C dX7_odds_0 rfl 1 rfl ?_
  refine cf_iconst C dX7_odds_1 (v := 0) rfl ?_
  refine cf_iconst C dX7_odds_2 (v := 1) rfl ?_
  refine cf_callSi C [.int x1, .int 0, .int 1] [] q767 (c_X7_in (vL E) (vG E) x1 0 1 _ _  hm) q766 q768 q72 md_X7_in (Nat.le_of_ble_eq_true rfl) (Nat.le_of_ble_eq_true rfl) rfl rfl (Nat.le_of_ble_eq_true rfl) dX7_odds_3 (fun v2 S1 hm => ?_)
  refine cf_if_ne C (tgt := 15) dX7_odds_6 (by decide) hm (fun hm => ?_) (fun hm => ?_)
  · refine cf_aload_n C dX7_odds_15 rfl 0 rfl ?_
    refine cf_callVi C [] [] okM_17.1 (ocell_7 okM_17.2.1) rfl q955 q48 (c_X7_allLeft (vL E) (vG E)  _ _  hm) q953 q956 q72 md_X7_allLeft (Nat.le_of_ble_eq_true rfl) (Nat.le_of_ble_eq_true rfl) rfl rfl (Nat.le_of_ble_eq_true rfl) dX7_odds_16 (fun v4 S3 hm => ?_)
    refine cf_istore_n C (L1 := [(2, .int v4), (0, .ref (adr (vG E) 17 0)), (1, .int x1)]) dX7_odds_19 rfl (by decide) rfl ?_
    refine cf_iload_n C dX7_odds_20 rfl 0 rfl ?_
    refine cf_if_ne C (tgt := 30) dX7_odds_21 (by decide) hm (fun hm => ?_) (fun hm => ?_)
    · refine cf_aload_n C dX7_odds_30 rfl 1 rfl ?_
      refine cf_callVi C [] [] okM_17.1 (ocell_7 okM_17.2.1) rfl q1011 q54 (c_X7_keepingSizes (vL E) (vG E)  _ _  hm) q1009 q1012 q72 md_X7_keepingSizes (Nat.le_of_ble_eq_true rfl) (Nat.le_of_ble_eq_true rfl) rfl rfl (Nat.le_of_ble_eq_true rfl) dX7_odds_31 (fun v6 S5 hm => ?_)
      refine cf_istore_n C (L1 := [(3, .int v6), (2, .int v4), (0, .ref (adr (vG E) 17 0)), (1, .int x1)]) dX7_odds_34 rfl (by decide) rfl ?_
      refine cf_iload_n C dX7_odds_35 rfl 0 rfl ?_
      refine cf_iload_n C dX7_odds_36 rfl 1 rfl ?_
      refine cf_callSi C [.int v6, .int v4] [] q1018 (c_X7_divisor (vL E) (vG E) v6 v4 _ _  hm) q1017 q1019 q72 md_X7_divisor (Nat.le_of_ble_eq_true rfl) (Nat.le_of_ble_eq_true rfl) rfl rfl (Nat.le_of_ble_eq_true rfl) dX7_odds_37 (fun v8 S7 hm => ?_)
      refine cf_istore C (L1 := [(4, .int v8), (3, .int v6), (2, .int v4), (0, .ref (adr (vG E) 17 0)), (1, .int x1)]) dX7_odds_40 (by decide) rfl ?_
      refine cf_iload_n C dX7_odds_42 rfl 4 rfl ?_
      refine cf_if_ne C (tgt := 53) dX7_odds_43 (by decide) hm (fun hm => ?_) (fun hm => ?_)
      · refine cf_iload_n C dX7_odds_53 rfl 2 rfl ?_
        refine cf_iload C dX7_odds_54 0 rfl ?_
        refine cf_idiv C dX7_odds_56 hm (fun hm => ?_)
        exact hR _ _ _ _ dX7_odds_57 hm
      · refine cf_iload_n C dX7_odds_46 rfl 1 rfl ?_
        refine cf_iload C dX7_odds_47 0 rfl ?_
        refine cf_idiv C dX7_odds_49 hm (fun hm => ?_)
        refine cf_goto C (tgt := 57) dX7_odds_50 (by decide) ?_
        exact hR _ _ _ _ dX7_odds_57 hm
    · refine cf_aload_n C dX7_odds_24 rfl 1 rfl ?_
      refine cf_iconst C dX7_odds_25 (v := 3) rfl ?_
      refine cf_callVi C [.int 3] [] okM_17.1 (ocell_7 okM_17.2.1) rfl q771 q19 (c_X7_error (vL E) (vG E) 3 _ _  hm) q769 q772 q72 md_X7_error (Nat.le_of_ble_eq_true rfl) (Nat.le_of_ble_eq_true rfl) rfl rfl (Nat.le_of_ble_eq_true rfl) dX7_odds_26 (fun v10 S9 hm => ?_)
      exact hR _ _ _ _ dX7_odds_29 hm
  · refine cf_aload_n C dX7_odds_9 rfl 0 rfl ?_
    refine cf_iconst C dX7_odds_10 (v := 1) rfl ?_
    refine cf_callVi C [.int 1] [] okM_17.1 (ocell_7 okM_17.2.1) rfl q771 q19 (c_X7_error (vL E) (vG E) 1 _ _  hm) q769 q772 q72 md_X7_error (Nat.le_of_ble_eq_true rfl) (Nat.le_of_ble_eq_true rfl) rfl rfl (Nat.le_of_ble_eq_true rfl) dX7_odds_11 (fun v12 S11 hm => ?_)
    exact hR _ _ _ _ dX7_odds_14 hm

def E_X7_isSheet (x0 : Int32) (S : St) (Q : Int32 → St → Prop) : Prop := E_X7_in x0 0 3 S (fun v2 S1 => (v2 = 0 ∨ v2 = 1) ∧ (Q v2 S1))
set_option maxRecDepth 20000 in
theorem c_X7_isSheet (l : Launch) (G : GX) (x0 : Int32) (S : St) (Q : Int32 → St → Prop)  (hm : E_X7_isSheet x0 S Q) : CTi l yX7_isSheet (Cond.code yX7_isSheet cX7_isSheet 1 (some .boolean) :: AW) { frames := 1, cells := 0, slots := 0, locals := 22 } G enM [.int x0] S Q := by
  refine ct_start_z (by decide) enM_nd (Nat.le_of_ble_eq_true rfl) (fun E hG hl C hR => ?_)
  subst hG
  subst hl
  show CF E S 0 [(0, .int x0)] []
  unfold E_X7_isSheet at hm
  refine cf_iload_n C dX7_isSheet_0 rfl 0 rfl ?_
  refine cf_iconst C dX7_isSheet_1 (v := 0) rfl ?_
  refine cf_iconst C dX7_isSheet_2 (v := 3) rfl ?_
  refine cf_callSi C [.int x0, .int 0, .int 3] [] q767 (c_X7_in (vL E) (vG E) x0 0 3 _ _  hm) q766 q768 q72 md_X7_in (Nat.le_of_ble_eq_true rfl) (Nat.le_of_ble_eq_true rfl) rfl rfl (Nat.le_of_ble_eq_true rfl) dX7_isSheet_3 (fun v2 S1 hm => ?_)
  exact hR _ _ _ _ dX7_isSheet_6 hm.1 hm.2

def E_X7_lacks (x1 : Int32) (S : St) (Q : Int32 → St → Prop) : Prop := E_X7_isSheet x1 S (fun v2 S1 => if v2 = 0 then (Q 1 S1) else (vp_in x1 4 ∧ (if (S1.2 17 18 x1.toNatClampNeg) = 0 then (Q 2 S1) else (Q 0 S1))))
set_option maxRecDepth 20000 in
theorem c_X7_lacks (l : Launch) (G : GX) (x1 : Int32) (S : St) (Q : Int32 → St → Prop)  (hm : E_X7_lacks x1 S Q) : CTi l yX7_lacks (Cond.code yX7_lacks cX7_lacks 2 (some .int) :: AW) { frames := 2, cells := 0, slots := 0, locals := 42 } G enM [.ref (adr G 17 0), .int x1] S Q := by
  refine ct_start_i (by decide) enM_nd (Nat.le_of_ble_eq_true rfl) (fun E hG hl C hR => ?_)
  subst hG
  subst hl
  show CF E S 0 [(0, .ref (adr (vG E) 17 0)), (1, .int x1)] []
  unfold E_X7_lacks at hm
  refine cf_iload_n C dX7_lacks_0 rfl 1 rfl ?_
  refine cf_callSi C [.int x1] [] q1029 (c_X7_isSheet (vL E) (vG E) x1 _ _  hm) q1028 q1030 q72 md_X7_isSheet (Nat.le_of_ble_eq_true rfl) (Nat.le_of_ble_eq_true rfl) rfl rfl (Nat.le_of_ble_eq_true rfl) dX7_lacks_1 (fun v2 S1 hm => ?_)
  refine cf_if_ne C (tgt := 11) dX7_lacks_4 (by decide) hm (fun hm => ?_) (fun hm => ?_)
  · refine cf_aload_n C dX7_lacks_11 rfl 0 rfl ?_
    refine gf_7_18 C inX7 okM_17 q712 dX7_lacks_12 ?_
    refine cf_iload_n C dX7_lacks_15 rfl 1 rfl ?_
    refine cf_iald C (okA_of 18 okM_17 rfl (by decide) (by decide) (by decide)) dX7_lacks_16 hm (fun hm => ?_)
    refine cf_if_ne C (tgt := 24) dX7_lacks_17 (by decide) hm (fun hm => ?_) (fun hm => ?_)
    · refine cf_iconst C dX7_lacks_24 (v := 0) rfl ?_
      exact hR _ _ _ _ dX7_lacks_25 hm
    · refine cf_iconst C dX7_lacks_20 (v := 2) rfl ?_
      refine cf_goto C (tgt := 25) dX7_lacks_21 (by decide) ?_
      exact hR _ _ _ _ dX7_lacks_25 hm
  · refine cf_iconst C dX7_lacks_7 (v := 1) rfl ?_
    refine cf_goto C (tgt := 25) dX7_lacks_8 (by decide) ?_
    exact hR _ _ _ _ dX7_lacks_25 hm

def L_X7_isLeftSo_35    (Q : Int32 → St → Prop) : Nat → Int32 → Int32 → Int32 → St → Prop
  | 0 => fun _ _ _ _ => False
  | n + 1 => fun x1 x4 x5 S => vp_in x1 4 ∧ (if (S.2 17 19 x1.toNatClampNeg) ≤ x5 then (E_X7_layBack S (fun S4 => (x4 = 0 ∨ x4 = 1) ∧ (Q x4 S4))) else (if x4 = 0 then (E_X7_layBack S (fun S5 => (x4 = 0 ∨ x4 = 1) ∧ (Q x4 S5))) else (E_X7_its x5 2 S (fun v7 S6 => vp_in ((24 * x1) + x5) 96 ∧ (if v7 = (S6.2 17 20 ((24 * x1) + x5).toNatClampNeg) then (nmI (x5 + 1) (fun v9 => L_X7_isLeftSo_35 Q n x1 1 v9 S6)) else (nmI (x5 + 1) (fun v8 => L_X7_isLeftSo_35 Q n x1 0 v8 S6)))))))
set_option maxRecDepth 20000 in
theorem w_L_X7_isLeftSo_35 {E : EV} {Q : Int32 → St → Prop}   (C : CX E cX7_isLeftSo RX7 6 enM 6 138)   (hR : RTz E cX7_isLeftSo Q) : ∀ (n : Nat) (x1 : Int32) (x4 : Int32) (x5 : Int32) (S : St), L_X7_isLeftSo_35 Q n x1 x4 x5 S → CF E S 35 [(0, .ref (adr (vG E) 17 0)), (1, .int x1), (4, .int x4), (5, .int x5)] [] := by
  intro n
  induction n with
  | zero =>
    intro x1 x4 x5 S hm
    exact hm.elim
  | succ n ih =>
    intro x1 x4 x5 S hm
    unfold L_X7_isLeftSo_35 at hm
    refine cf_iload C dX7_isLeftSo_35 3 rfl ?_
    refine cf_aload_n C dX7_isLeftSo_37 rfl 0 rfl ?_
    refine gf_7_19 C inX7 okM_17 q713 dX7_isLeftSo_38 ?_
    refine cf_iload_n C dX7_isLeftSo_41 rfl 1 rfl ?_
    refine cf_iald C (okA_of 19 okM_17 rfl (by decide) (by decide) (by decide)) dX7_isLeftSo_42 hm (fun hm => ?_)
    refine cf_icmp_ge C (tgt := 86) dX7_isLeftSo_43 (by decide) hm (fun hm => ?_) (fun hm => ?_)
    · refine cf_aload_n C dX7_isLeftSo_86 rfl 0 rfl ?_
      refine cf_callVv C [] [] okM_17.1 (ocell_7 okM_17.2.1) rfl q984 q52 (c_X7_layBack (vL E) (vG E)  _ _  hm) q982 q985 q72 md_X7_layBack (Nat.le_of_ble_eq_true rfl) (Nat.le_of_ble_eq_true rfl) rfl rfl (Nat.le_of_ble_eq_true rfl) dX7_isLeftSo_87 (fun S4 hm => ?_)
      refine cf_iload C dX7_isLeftSo_90 2 rfl ?_
      exact hR _ _ _ _ dX7_isLeftSo_92 hm.1 hm.2
    · refine cf_iload C dX7_isLeftSo_46 2 rfl ?_
      refine cf_if_eq C (tgt := 86) dX7_isLeftSo_48 (by decide) hm (fun hm => ?_) (fun hm => ?_)
      · refine cf_aload_n C dX7_isLeftSo_86 rfl 0 rfl ?_
        refine cf_callVv C [] [] okM_17.1 (ocell_7 okM_17.2.1) rfl q984 q52 (c_X7_layBack (vL E) (vG E)  _ _  hm) q982 q985 q72 md_X7_layBack (Nat.le_of_ble_eq_true rfl) (Nat.le_of_ble_eq_true rfl) rfl rfl (Nat.le_of_ble_eq_true rfl) dX7_isLeftSo_87 (fun S5 hm => ?_)
        refine cf_iload C dX7_isLeftSo_90 2 rfl ?_
        exact hR _ _ _ _ dX7_isLeftSo_92 hm.1 hm.2
      · refine cf_aload_n C dX7_isLeftSo_51 rfl 0 rfl ?_
        refine cf_iload C dX7_isLeftSo_52 3 rfl ?_
        refine cf_iconst C dX7_isLeftSo_54 (v := 2) rfl ?_
        refine cf_callVi C [.int x5, .int 2] [] okM_17.1 (ocell_7 okM_17.2.1) rfl q860 q36 (c_X7_its (vL E) (vG E) x5 2 _ _  hm) q858 q861 q72 md_X7_its (Nat.le_of_ble_eq_true rfl) (Nat.le_of_ble_eq_true rfl) rfl rfl (Nat.le_of_ble_eq_true rfl) dX7_isLeftSo_55 (fun v7 S6 hm => ?_)
        refine cf_aload_n C dX7_isLeftSo_58 rfl 0 rfl ?_
        refine gf_7_20 C inX7 okM_17 q714 dX7_isLeftSo_59 ?_
        refine cf_bipush C dX7_isLeftSo_62 (v := 24) rfl ?_
        refine cf_iload_n C dX7_isLeftSo_64 rfl 1 rfl ?_
        refine cf_imul C dX7_isLeftSo_65 ?_
        refine cf_iload C dX7_isLeftSo_66 3 rfl ?_
        refine cf_iadd C dX7_isLeftSo_68 ?_
        refine cf_iald C (okA_of 20 okM_17 rfl (by decide) (by decide) (by decide)) dX7_isLeftSo_69 hm (fun hm => ?_)
        refine cf_icmp_ne C (tgt := 77) dX7_isLeftSo_70 (by decide) hm (fun hm => ?_) (fun hm => ?_)
        · refine cf_iconst C dX7_isLeftSo_77 (v := 0) rfl ?_
          refine cf_istore C (L1 := [(4, .int 0), (0, .ref (adr (vG E) 17 0)), (1, .int x1), (5, .int x5)]) dX7_isLeftSo_78 (by decide) rfl ?_
          refine cf_iincN C (L1 := fun v8 => [(5, .int v8), (4, .int 0), (0, .ref (adr (vG E) 17 0)), (1, .int x1)]) dX7_isLeftSo_80 3 rfl rfl (by decide) (fun _ => rfl) hm (fun v8 hm => ?_)
          refine cf_goto C (tgt := 35) dX7_isLeftSo_83 (by decide) ?_
          refine cf_sub C [2, 3, 1, 0] rfl ?_
          exact ih x1 0 v8 _ hm
        · refine cf_iconst C dX7_isLeftSo_73 (v := 1) rfl ?_
          refine cf_goto C (tgt := 78) dX7_isLeftSo_74 (by decide) ?_
          refine cf_istore C (L1 := [(4, .int 1), (0, .ref (adr (vG E) 17 0)), (1, .int x1), (5, .int x5)]) dX7_isLeftSo_78 (by decide) rfl ?_
          refine cf_iincN C (L1 := fun v9 => [(5, .int v9), (4, .int 1), (0, .ref (adr (vG E) 17 0)), (1, .int x1)]) dX7_isLeftSo_80 3 rfl rfl (by decide) (fun _ => rfl) hm (fun v9 hm => ?_)
          refine cf_goto C (tgt := 35) dX7_isLeftSo_83 (by decide) ?_
          refine cf_sub C [2, 3, 1, 0] rfl ?_
          exact ih x1 1 v9 _ hm
def E_X7_isLeftSo (x1 : Int32) (x2 : Int32) (S : St) (Q : Int32 → St → Prop) : Prop := E_X7_layDown S (fun S1 => E_X7_aMeal x2 S1 (fun v3 S2 => vp_in x1 4 ∧ (vp_in 5 387 ∧ (if (S2.2 17 0 (5 : Int32).toNatClampNeg) < (S2.2 17 19 x1.toNatClampNeg) then (∃ k, L_X7_isLeftSo_35 Q k x1 0 0 S2) else (∃ k, L_X7_isLeftSo_35 Q k x1 1 0 S2)))))
set_option maxRecDepth 20000 in
theorem c_X7_isLeftSo (l : Launch) (G : GX) (x1 : Int32) (x2 : Int32) (S : St) (Q : Int32 → St → Prop)  (hm : E_X7_isLeftSo x1 x2 S Q) : CTi l yX7_isLeftSo (Cond.code yX7_isLeftSo cX7_isLeftSo 6 (some .boolean) :: AW) { frames := 6, cells := 0, slots := 0, locals := 138 } G enM [.ref (adr G 17 0), .int x1, .int x2] S Q := by
  refine ct_start_z (by decide) enM_nd (Nat.le_of_ble_eq_true rfl) (fun E hG hl C hR => ?_)
  subst hG
  subst hl
  show CF E S 0 [(0, .ref (adr (vG E) 17 0)), (1, .int x1), (2, .int x2)] []
  unfold E_X7_isLeftSo at hm
  refine cf_aload_n C dX7_isLeftSo_0 rfl 0 rfl ?_
  refine cf_callVv C [] [] okM_17.1 (ocell_7 okM_17.2.1) rfl q980 q51 (c_X7_layDown (vL E) (vG E)  _ _  hm) q978 q981 q72 md_X7_layDown (Nat.le_of_ble_eq_true rfl) (Nat.le_of_ble_eq_true rfl) rfl rfl (Nat.le_of_ble_eq_true rfl) dX7_isLeftSo_1 (fun S1 hm => ?_)
  refine cf_aload_n C dX7_isLeftSo_4 rfl 0 rfl ?_
  refine cf_iload_n C dX7_isLeftSo_5 rfl 2 rfl ?_
  refine cf_callVi C [.int x2] [] okM_17.1 (ocell_7 okM_17.2.1) rfl q934 q44 (c_X7_aMeal (vL E) (vG E) x2 _ _  hm) q932 q935 q72 md_X7_aMeal (Nat.le_of_ble_eq_true rfl) (Nat.le_of_ble_eq_true rfl) rfl rfl (Nat.le_of_ble_eq_true rfl) dX7_isLeftSo_6 (fun v3 S2 hm => ?_)
  refine cf_istore_n C (L1 := [(3, .int v3), (0, .ref (adr (vG E) 17 0)), (1, .int x1), (2, .int x2)]) dX7_isLeftSo_9 rfl (by decide) rfl ?_
  refine cf_aload_n C dX7_isLeftSo_10 rfl 1 rfl ?_
  refine gf_7_19 C inX7 okM_17 q713 dX7_isLeftSo_11 ?_
  refine cf_iload_n C dX7_isLeftSo_14 rfl 2 rfl ?_
  refine cf_iald C (okA_of 19 okM_17 rfl (by decide) (by decide) (by decide)) dX7_isLeftSo_15 hm (fun hm => ?_)
  refine cf_aload_n C dX7_isLeftSo_16 rfl 1 rfl ?_
  refine gf_7_0 C inX7 okM_17 q694 dX7_isLeftSo_17 ?_
  refine cf_iconst C dX7_isLeftSo_20 (v := 5) rfl ?_
  refine cf_iald C (okA_of 0 okM_17 rfl (by decide) (by decide) (by decide)) dX7_isLeftSo_21 hm (fun hm => ?_)
  refine cf_icmp_gt C (tgt := 29) dX7_isLeftSo_22 (by decide) hm (fun hm => ?_) (fun hm => ?_)
  · refine cf_iconst C dX7_isLeftSo_29 (v := 0) rfl ?_
    refine cf_istore C (L1 := [(4, .int 0), (3, .int v3), (0, .ref (adr (vG E) 17 0)), (1, .int x1), (2, .int x2)]) dX7_isLeftSo_30 (by decide) rfl ?_
    refine cf_iconst C dX7_isLeftSo_32 (v := 0) rfl ?_
    refine cf_istore C (L1 := [(5, .int 0), (4, .int 0), (3, .int v3), (0, .ref (adr (vG E) 17 0)), (1, .int x1), (2, .int x2)]) dX7_isLeftSo_33 (by decide) rfl ?_
    refine cf_sub C [3, 4, 1, 0] rfl ?_
    obtain ⟨k, hm⟩ := hm
    exact w_L_X7_isLeftSo_35 C hR k x1 0 0 _ hm
  · refine cf_iconst C dX7_isLeftSo_25 (v := 1) rfl ?_
    refine cf_goto C (tgt := 30) dX7_isLeftSo_26 (by decide) ?_
    refine cf_istore C (L1 := [(4, .int 1), (3, .int v3), (0, .ref (adr (vG E) 17 0)), (1, .int x1), (2, .int x2)]) dX7_isLeftSo_30 (by decide) rfl ?_
    refine cf_iconst C dX7_isLeftSo_32 (v := 0) rfl ?_
    refine cf_istore C (L1 := [(5, .int 0), (4, .int 1), (3, .int v3), (0, .ref (adr (vG E) 17 0)), (1, .int x1), (2, .int x2)]) dX7_isLeftSo_33 (by decide) rfl ?_
    refine cf_sub C [3, 4, 1, 0] rfl ?_
    obtain ⟨k, hm⟩ := hm
    exact w_L_X7_isLeftSo_35 C hR k x1 1 0 _ hm

def J_X7_fits_65   (K39 : Int32 → Int32 → Int32 → Int32 → Int32 → St → Prop) (Q : Int32 → St → Prop) (x1 : Int32) (x2 : Int32) (x5 : Int32) (x6 : Int32) (x7 : Int32) (t0 : Int32) (t1 : Int32) (S : St) : Prop := nmI (t1 + t0) (fun v7 => if x7 = 0 then (nmI (x6 + (-1)) (fun v8 => K39 x1 x2 v7 x5 v8 S)) else (nmI (x6 + (-1)) (fun v9 => K39 x1 x2 v7 x6 v9 S)))
set_option maxRecDepth 20000 in
theorem w_J_X7_fits_65 {E : EV} {Q : Int32 → St → Prop}   (C : CX E cX7_fits RX7 8 enM 7 163)   (hR : RTi E cX7_fits Q) {K39 : Int32 → Int32 → Int32 → Int32 → Int32 → St → Prop} (hK39 : ∀ (x1 : Int32) (x2 : Int32) (x4 : Int32) (x5 : Int32) (x6 : Int32) (S : St), K39 x1 x2 x4 x5 x6 S → CF E S 39 [(0, .ref (adr (vG E) 17 0)), (1, .int x1), (2, .int x2), (4, .int x4), (5, .int x5), (6, .int x6)] []) : ∀ (x1 : Int32) (x2 : Int32) (x5 : Int32) (x6 : Int32) (x7 : Int32) (t0 : Int32) (t1 : Int32) (S : St), J_X7_fits_65 K39 Q x1 x2 x5 x6 x7 t0 t1 S → CF E S 65 [(0, .ref (adr (vG E) 17 0)), (1, .int x1), (2, .int x2), (5, .int x5), (6, .int x6), (7, .int x7)] [.int t0, .int t1] := by
  intro x1 x2 x5 x6 x7 t0 t1 S hm
  unfold J_X7_fits_65 at hm
  refine cf_iadd C dX7_fits_65 ?_
  refine cf_nmI hm (fun v7 hm => ?_)
  refine cf_istore C (L1 := [(4, .int v7), (0, .ref (adr (vG E) 17 0)), (1, .int x1), (2, .int x2), (5, .int x5), (6, .int x6), (7, .int x7)]) dX7_fits_66 (by decide) rfl ?_
  refine cf_iload C dX7_fits_68 6 rfl ?_
  refine cf_if_eq C (tgt := 78) dX7_fits_70 (by decide) hm (fun hm => ?_) (fun hm => ?_)
  · refine cf_iload C dX7_fits_78 4 rfl ?_
    refine cf_istore C (L1 := [(5, .int x5), (4, .int v7), (0, .ref (adr (vG E) 17 0)), (1, .int x1), (2, .int x2), (6, .int x6), (7, .int x7)]) dX7_fits_80 (by decide) rfl ?_
    refine cf_iincN C (L1 := fun v8 => [(6, .int v8), (5, .int x5), (4, .int v7), (0, .ref (adr (vG E) 17 0)), (1, .int x1), (2, .int x2), (7, .int x7)]) dX7_fits_82 5 rfl rfl (by decide) (fun _ => rfl) hm (fun v8 hm => ?_)
    refine cf_goto C (tgt := 39) dX7_fits_85 (by decide) ?_
    refine cf_sub C [3, 4, 5, 2, 1, 0] rfl ?_
    exact hK39 x1 x2 v7 x5 v8 _ hm
  · refine cf_iload C dX7_fits_73 5 rfl ?_
    refine cf_goto C (tgt := 80) dX7_fits_75 (by decide) ?_
    refine cf_istore C (L1 := [(5, .int x6), (4, .int v7), (0, .ref (adr (vG E) 17 0)), (1, .int x1), (2, .int x2), (6, .int x6), (7, .int x7)]) dX7_fits_80 (by decide) rfl ?_
    refine cf_iincN C (L1 := fun v9 => [(6, .int v9), (5, .int x6), (4, .int v7), (0, .ref (adr (vG E) 17 0)), (1, .int x1), (2, .int x2), (7, .int x7)]) dX7_fits_82 5 rfl rfl (by decide) (fun _ => rfl) hm (fun v9 hm => ?_)
    refine cf_goto C (tgt := 39) dX7_fits_85 (by decide) ?_
    refine cf_sub C [3, 4, 5, 2, 1, 0] rfl ?_
    exact hK39 x1 x2 v7 x6 v9 _ hm
def L_X7_fits_39    (Q : Int32 → St → Prop) : Nat → Int32 → Int32 → Int32 → Int32 → Int32 → St → Prop
  | 0 => fun _ _ _ _ _ _ => False
  | n + 1 => fun x1 x2 x4 x5 x6 S => if x6 < 0 then (if x2 = 0 then (Q x4 S) else (if x5 = (-1) then (E_X7_error 2 S (fun v4 S3 => Q v4 S3)) else (Q x5 S))) else (E_X7_isLeftSo x1 x6 S (fun v6 S5 => if v6 = 0 then (J_X7_fits_65 (L_X7_fits_39 Q n) Q x1 x2 x5 x6 v6 0 x4 S5) else (J_X7_fits_65 (L_X7_fits_39 Q n) Q x1 x2 x5 x6 v6 1 x4 S5)))
set_option maxRecDepth 20000 in
theorem w_L_X7_fits_39 {E : EV} {Q : Int32 → St → Prop}   (C : CX E cX7_fits RX7 8 enM 7 163)   (hR : RTi E cX7_fits Q) : ∀ (n : Nat) (x1 : Int32) (x2 : Int32) (x4 : Int32) (x5 : Int32) (x6 : Int32) (S : St), L_X7_fits_39 Q n x1 x2 x4 x5 x6 S → CF E S 39 [(0, .ref (adr (vG E) 17 0)), (1, .int x1), (2, .int x2), (4, .int x4), (5, .int x5), (6, .int x6)] [] := by
  intro n
  induction n with
  | zero =>
    intro x1 x2 x4 x5 x6 S hm
    exact hm.elim
  | succ n ih =>
    intro x1 x2 x4 x5 x6 S hm
    unfold L_X7_fits_39 at hm
    refine cf_iload C dX7_fits_39 5 rfl ?_
    refine cf_if_lt C (tgt := 88) dX7_fits_41 (by decide) hm (fun hm => ?_) (fun hm => ?_)
    · refine cf_iload_n C dX7_fits_88 rfl 2 rfl ?_
      refine cf_if_ne C (tgt := 97) dX7_fits_89 (by decide) hm (fun hm => ?_) (fun hm => ?_)
      · refine cf_iload C dX7_fits_97 4 rfl ?_
        refine cf_iconst C dX7_fits_99 (v := (-1)) rfl ?_
        refine cf_icmp_ne C (tgt := 111) dX7_fits_100 (by decide) hm (fun hm => ?_) (fun hm => ?_)
        · refine cf_iload C dX7_fits_111 4 rfl ?_
          exact hR _ _ _ _ dX7_fits_113 hm
        · refine cf_aload_n C dX7_fits_103 rfl 0 rfl ?_
          refine cf_iconst C dX7_fits_104 (v := 2) rfl ?_
          refine cf_callVi C [.int 2] [] okM_17.1 (ocell_7 okM_17.2.1) rfl q771 q19 (c_X7_error (vL E) (vG E) 2 _ _  hm) q769 q772 q72 md_X7_error (Nat.le_of_ble_eq_true rfl) (Nat.le_of_ble_eq_true rfl) rfl rfl (Nat.le_of_ble_eq_true rfl) dX7_fits_105 (fun v4 S3 hm => ?_)
          refine cf_goto C (tgt := 113) dX7_fits_108 (by decide) ?_
          exact hR _ _ _ _ dX7_fits_113 hm
      · refine cf_iload C dX7_fits_92 3 rfl ?_
        refine cf_goto C (tgt := 113) dX7_fits_94 (by decide) ?_
        exact hR _ _ _ _ dX7_fits_113 hm
    · refine cf_aload_n C dX7_fits_44 rfl 0 rfl ?_
      refine cf_iload_n C dX7_fits_45 rfl 1 rfl ?_
      refine cf_iload C dX7_fits_46 5 rfl ?_
      refine cf_callVi C [.int x1, .int x6] [] okM_17.1 (ocell_7 okM_17.2.1) rfl q1033 q56 (c_X7_isLeftSo (vL E) (vG E) x1 x6 _ _  hm) q1031 q1034 q72 md_X7_isLeftSo (Nat.le_of_ble_eq_true rfl) (Nat.le_of_ble_eq_true rfl) rfl rfl (Nat.le_of_ble_eq_true rfl) dX7_fits_48 (fun v6 S5 hm => ?_)
      refine cf_istore C (L1 := [(7, .int v6), (0, .ref (adr (vG E) 17 0)), (1, .int x1), (2, .int x2), (4, .int x4), (5, .int x5), (6, .int x6)]) dX7_fits_51 (by decide) rfl ?_
      refine cf_iload C dX7_fits_53 4 rfl ?_
      refine cf_iload C dX7_fits_55 0 rfl ?_
      refine cf_if_eq C (tgt := 64) dX7_fits_57 (by decide) hm (fun hm => ?_) (fun hm => ?_)
      · refine cf_iconst C dX7_fits_64 (v := 0) rfl ?_
        refine cf_sub C [1, 2, 3, 5, 6, 0] rfl ?_
        exact w_J_X7_fits_65 C hR ih x1 x2 x5 x6 v6 0 x4 _ hm
      · refine cf_iconst C dX7_fits_60 (v := 1) rfl ?_
        refine cf_goto C (tgt := 65) dX7_fits_61 (by decide) ?_
        refine cf_sub C [1, 2, 3, 5, 6, 0] rfl ?_
        exact w_J_X7_fits_65 C hR ih x1 x2 x5 x6 v6 1 x4 _ hm
def J_X7_fits_18    (Q : Int32 → St → Prop) (x1 : Int32) (x2 : Int32) (t0 : Int32) (S : St) : Prop := if t0 = 0 then (∃ k, L_X7_fits_39 Q k x1 x2 0 (-1) 99 S) else (E_X7_error t0 S (fun v11 S10 => Q v11 S10))
set_option maxRecDepth 20000 in
theorem w_J_X7_fits_18 {E : EV} {Q : Int32 → St → Prop}   (C : CX E cX7_fits RX7 8 enM 7 163)   (hR : RTi E cX7_fits Q) : ∀ (x1 : Int32) (x2 : Int32) (t0 : Int32) (S : St), J_X7_fits_18 Q x1 x2 t0 S → CF E S 18 [(0, .ref (adr (vG E) 17 0)), (1, .int x1), (2, .int x2)] [.int t0] := by
  intro x1 x2 t0 S hm
  unfold J_X7_fits_18 at hm
  refine cf_istore_n C (L1 := [(3, .int t0), (0, .ref (adr (vG E) 17 0)), (1, .int x1), (2, .int x2)]) dX7_fits_18 rfl (by decide) rfl ?_
  refine cf_iload_n C dX7_fits_19 rfl 0 rfl ?_
  refine cf_if_eq C (tgt := 29) dX7_fits_20 (by decide) hm (fun hm => ?_) (fun hm => ?_)
  · refine cf_iconst C dX7_fits_29 (v := 0) rfl ?_
    refine cf_istore C (L1 := [(4, .int 0), (3, .int t0), (0, .ref (adr (vG E) 17 0)), (1, .int x1), (2, .int x2)]) dX7_fits_30 (by decide) rfl ?_
    refine cf_iconst C dX7_fits_32 (v := (-1)) rfl ?_
    refine cf_istore C (L1 := [(5, .int ((-1))), (4, .int 0), (3, .int t0), (0, .ref (adr (vG E) 17 0)), (1, .int x1), (2, .int x2)]) dX7_fits_33 (by decide) rfl ?_
    refine cf_bipush C dX7_fits_35 (v := 99) rfl ?_
    refine cf_istore C (L1 := [(6, .int 99), (5, .int ((-1))), (4, .int 0), (3, .int t0), (0, .ref (adr (vG E) 17 0)), (1, .int x1), (2, .int x2)]) dX7_fits_37 (by decide) rfl ?_
    refine cf_sub C [4, 5, 6, 2, 1, 0] rfl ?_
    obtain ⟨k, hm⟩ := hm
    exact w_L_X7_fits_39 C hR k x1 x2 0 (-1) 99 _ hm
  · refine cf_aload_n C dX7_fits_23 rfl 1 rfl ?_
    refine cf_iload_n C dX7_fits_24 rfl 0 rfl ?_
    refine cf_callVi C [.int t0] [] okM_17.1 (ocell_7 okM_17.2.1) rfl q771 q19 (c_X7_error (vL E) (vG E) t0 _ _  hm) q769 q772 q72 md_X7_error (Nat.le_of_ble_eq_true rfl) (Nat.le_of_ble_eq_true rfl) rfl rfl (Nat.le_of_ble_eq_true rfl) dX7_fits_25 (fun v11 S10 hm => ?_)
    exact hR _ _ _ _ dX7_fits_28 hm
def E_X7_fits (x1 : Int32) (x2 : Int32) (S : St) (Q : Int32 → St → Prop) : Prop := E_X7_in x2 0 1 S (fun v2 S1 => if v2 = 0 then (J_X7_fits_18 Q x1 x2 1 S1) else (E_X7_lacks x1 S1 (fun v13 S12 => J_X7_fits_18 Q x1 x2 v13 S12)))
set_option maxRecDepth 20000 in
theorem c_X7_fits (l : Launch) (G : GX) (x1 : Int32) (x2 : Int32) (S : St) (Q : Int32 → St → Prop)  (hm : E_X7_fits x1 x2 S Q) : CTi l yX7_fits (Cond.code yX7_fits cX7_fits 8 (some .int) :: AW) { frames := 7, cells := 0, slots := 0, locals := 163 } G enM [.ref (adr G 17 0), .int x1, .int x2] S Q := by
  refine ct_start_i (by decide) enM_nd (Nat.le_of_ble_eq_true rfl) (fun E hG hl C hR => ?_)
  subst hG
  subst hl
  show CF E S 0 [(0, .ref (adr (vG E) 17 0)), (1, .int x1), (2, .int x2)] []
  unfold E_X7_fits at hm
  refine cf_iload_n C dX7_fits_0 rfl 2 rfl ?_
  refine cf_iconst C dX7_fits_1 (v := 0) rfl ?_
  refine cf_iconst C dX7_fits_2 (v := 1) rfl ?_
  refine cf_callSi C [.int x2, .int 0, .int 1] [] q767 (c_X7_in (vL E) (vG E) x2 0 1 _ _  hm) q766 q768 q72 md_X7_in (Nat.le_of_ble_eq_true rfl) (Nat.le_of_ble_eq_true rfl) rfl rfl (Nat.le_of_ble_eq_true rfl) dX7_fits_3 (fun v2 S1 hm => ?_)
  refine cf_if_eq C (tgt := 17) dX7_fits_6 (by decide) hm (fun hm => ?_) (fun hm => ?_)
  · refine cf_iconst C dX7_fits_17 (v := 1) rfl ?_
    exact w_J_X7_fits_18 C hR x1 x2 1 _ hm
  · refine cf_aload_n C dX7_fits_9 rfl 0 rfl ?_
    refine cf_iload_n C dX7_fits_10 rfl 1 rfl ?_
    refine cf_callVi C [.int x1] [] okM_17.1 (ocell_7 okM_17.2.1) rfl q1026 q55 (c_X7_lacks (vL E) (vG E) x1 _ _  hm) q1024 q1027 q72 md_X7_lacks (Nat.le_of_ble_eq_true rfl) (Nat.le_of_ble_eq_true rfl) rfl rfl (Nat.le_of_ble_eq_true rfl) dX7_fits_11 (fun v13 S12 hm => ?_)
    refine cf_goto C (tgt := 18) dX7_fits_14 (by decide) ?_
    exact w_J_X7_fits_18 C hR x1 x2 v13 _ hm

def E_X7_kindNow  (S : St) (Q : Int32 → St → Prop) : Prop := E_X7_its (S.1 17 16) 0 S (fun v2 S1 => Q v2 S1)
set_option maxRecDepth 20000 in
theorem c_X7_kindNow (l : Launch) (G : GX)  (S : St) (Q : Int32 → St → Prop)  (hm : E_X7_kindNow  S Q) : CTi l yX7_kindNow (Cond.code yX7_kindNow cX7_kindNow 1 (some .int) :: AW) { frames := 1, cells := 0, slots := 0, locals := 22 } G enM [.ref (adr G 17 0)] S Q := by
  refine ct_start_i (by decide) enM_nd (Nat.le_of_ble_eq_true rfl) (fun E hG hl C hR => ?_)
  subst hG
  subst hl
  show CF E S 0 [(0, .ref (adr (vG E) 17 0))] []
  unfold E_X7_kindNow at hm
  refine cf_aload_n C dX7_kindNow_0 rfl 0 rfl ?_
  refine cf_aload_n C dX7_kindNow_1 rfl 0 rfl ?_
  refine gf_7_16 C inX7 okM_17 q710 dX7_kindNow_2 ?_
  refine cf_iconst C dX7_kindNow_5 (v := 0) rfl ?_
  refine cf_callVi C [.int (S.1 17 16), .int 0] [] okM_17.1 (ocell_7 okM_17.2.1) rfl q860 q36 (c_X7_its (vL E) (vG E) (S.1 17 16) 0 _ _  hm) q858 q861 q72 md_X7_its (Nat.le_of_ble_eq_true rfl) (Nat.le_of_ble_eq_true rfl) rfl rfl (Nat.le_of_ble_eq_true rfl) dX7_kindNow_6 (fun v2 S1 hm => ?_)
  exact hR _ _ _ _ dX7_kindNow_9 hm

def E_X7_starts (x1 : Int32) (S : St) (Q : St → Prop) : Prop := if 30 ≤ (S.1 17 14) then (Q S) else (vp_in (S.1 17 14) 30 ∧ (nmS (stR S 17 15 (upd (S.2 17 15) (S.1 17 14).toNatClampNeg x1)) (fun S1 => nmS (stI S1 17 14 ((S1.1 17 14) + 1)) (fun S2 => Q S2))))
set_option maxRecDepth 20000 in
theorem c_X7_starts (l : Launch) (G : GX) (x1 : Int32) (S : St) (Q : St → Prop)  (hm : E_X7_starts x1 S Q) : CTv l yX7_starts (Cond.code yX7_starts cX7_starts 2 none :: AW) { frames := 0, cells := 0, slots := 0, locals := 0 } G enM [.ref (adr G 17 0), .int x1] S Q := by
  refine ct_start_v (by decide) enM_nd (Nat.le_of_ble_eq_true rfl) (fun E hG hl C hR => ?_)
  subst hG
  subst hl
  show CF E S 0 [(0, .ref (adr (vG E) 17 0)), (1, .int x1)] []
  unfold E_X7_starts at hm
  refine cf_aload_n C dX7_starts_0 rfl 0 rfl ?_
  refine gf_7_14 C inX7 okM_17 q708 dX7_starts_1 ?_
  refine cf_bipush C dX7_starts_4 (v := 30) rfl ?_
  refine cf_icmp_ge C (tgt := 29) dX7_starts_6 (by decide) hm (fun hm => ?_) (fun hm => ?_)
  · exact hR _ _ _ dX7_starts_29 hm
  · refine cf_aload_n C dX7_starts_9 rfl 0 rfl ?_
    refine gf_7_15 C inX7 okM_17 q709 dX7_starts_10 ?_
    refine cf_aload_n C dX7_starts_13 rfl 0 rfl ?_
    refine gf_7_14 C inX7 okM_17 q708 dX7_starts_14 ?_
    refine cf_iload_n C dX7_starts_17 rfl 1 rfl ?_
    refine cf_iast C (okA_of 15 okM_17 rfl (by decide) (by decide) (by decide)) dX7_starts_18 hm (fun hm => ?_)
    refine cf_nmS hm (fun S1 hm => ?_)
    refine cf_aload_n C dX7_starts_19 rfl 0 rfl ?_
    refine cf_dup C dX7_starts_20 rfl ?_
    refine gf_7_14 C inX7 okM_17 q708 dX7_starts_21 ?_
    refine cf_iconst C dX7_starts_24 (v := 1) rfl ?_
    refine cf_iadd C dX7_starts_25 ?_
    refine pf_7_14 C inX7 okM_17 q708 dX7_starts_26 ?_
    refine cf_nmS hm (fun S2 hm => ?_)
    exact hR _ _ _ dX7_starts_29 hm

def B_X7_sighsAs (r_X7_sighsAs : Int32 → Int32 → St → (Int32 → St → Prop) → Prop) (x1 : Int32) (x2 : Int32) (S : St) (Q : Int32 → St → Prop) : Prop := if x1 = 0 then (E_X7_starts 10 S (fun S1 => Q (x2 + (S1.1 17 16)) S1)) else (if x1 = 1 then (E_X7_starts 20 S (fun S2 => E_X7_above 1 S2 (fun v4 S3 => r_X7_sighsAs v4 x2 S3 (fun v6 S5 => Q (v6 - 4) S5)))) else (if x1 = 4 then (E_X7_starts 50 S (fun S7 => E_X7_above 4 S7 (fun v9 S8 => r_X7_sighsAs v9 x2 S8 (fun v11 S10 => Q (v11 * 3) S10)))) else (if x1 = 6 then (E_X7_starts 70 S (fun S12 => Q 9 S12)) else (E_X7_above x1 S (fun v14 S13 => r_X7_sighsAs v14 x2 S13 (fun v16 S15 => Q v16 S15))))))
set_option maxRecDepth 20000 in
theorem cb_X7_sighsAs (l : Launch) (G : GX) (D : Nat) {r_X7_sighsAs : Int32 → Int32 → St → (Int32 → St → Prop) → Prop} (hr_X7_sighsAs : ∀ (x1 : Int32) (x2 : Int32) (S : St) (Q : Int32 → St → Prop), r_X7_sighsAs x1 x2 S Q → CTi l yX7_sighsAs (Cond.code yX7_sighsAs cX7_sighsAs 3 (some .int) :: AW) { frames := D + 1, cells := 0, slots := 0, locals := 30 * D + 21 } G enM [.ref (adr G 17 0), .int x1, .int x2] S Q) (x1 : Int32) (x2 : Int32) (S : St) (Q : Int32 → St → Prop)  (hm : B_X7_sighsAs r_X7_sighsAs x1 x2 S Q) : CTi l yX7_sighsAs (Cond.code yX7_sighsAs cX7_sighsAs 3 (some .int) :: AW) { frames := (D + 1 + 1), cells := 0, slots := 0, locals := (30 * (D + 1) + 21) } G enM [.ref (adr G 17 0), .int x1, .int x2] S Q := by
  refine ct_start_i (by decide) enM_nd (Nat.le_of_ble_eq_true rfl) (fun E hG hl C hR => ?_)
  subst hG
  subst hl
  show CF E S 0 [(0, .ref (adr (vG E) 17 0)), (1, .int x1), (2, .int x2)] []
  unfold B_X7_sighsAs at hm
  refine cf_iload_n C dX7_sighsAs_0 rfl 1 rfl ?_
  rcases ifc hm with ⟨hx, hm⟩ | ⟨h1_0, hm⟩
  · refine cf_tsIn C 0 dX7_sighsAs_1 (by rw [hx]; rfl) (by decide) (by decide) (off := 43) (by rfl) (tgt := 44) (by decide) ?_
    refine cf_aload_n C dX7_sighsAs_44 rfl 0 rfl ?_
    refine cf_bipush C dX7_sighsAs_45 (v := 10) rfl ?_
    refine cf_callVv C [.int 10] [] okM_17.1 (ocell_7 okM_17.2.1) rfl q1049 q59 (c_X7_starts (vL E) (vG E) 10 _ _  hm) q1047 q1050 q72 md_X7_starts (by omega) (by omega) rfl rfl (Nat.le_of_ble_eq_true rfl) dX7_sighsAs_47 (fun S1 hm => ?_)
    refine cf_iload_n C dX7_sighsAs_50 rfl 2 rfl ?_
    refine cf_aload_n C dX7_sighsAs_51 rfl 0 rfl ?_
    refine gf_7_16 C inX7 okM_17 q710 dX7_sighsAs_52 ?_
    refine cf_iadd C dX7_sighsAs_55 ?_
    exact hR _ _ _ _ dX7_sighsAs_56 hm
  rcases ifc hm with ⟨hx, hm⟩ | ⟨h1_1, hm⟩
  · refine cf_tsIn C 1 dX7_sighsAs_1 (by rw [hx]; rfl) (by decide) (by decide) (off := 56) (by rfl) (tgt := 57) (by decide) ?_
    refine cf_aload_n C dX7_sighsAs_57 rfl 0 rfl ?_
    refine cf_bipush C dX7_sighsAs_58 (v := 20) rfl ?_
    refine cf_callVv C [.int 20] [] okM_17.1 (ocell_7 okM_17.2.1) rfl q1049 q59 (c_X7_starts (vL E) (vG E) 20 _ _  hm) q1047 q1050 q72 md_X7_starts (by omega) (by omega) rfl rfl (Nat.le_of_ble_eq_true rfl) dX7_sighsAs_60 (fun S2 hm => ?_)
    refine cf_aload_n C dX7_sighsAs_63 rfl 0 rfl ?_
    refine cf_iconst C dX7_sighsAs_64 (v := 1) rfl ?_
    refine cf_callSi C [.int 1] [.ref (adr (vG E) 17 0)] q907 (c_X7_above (vL E) (vG E) 1 _ _  hm) q906 q908 q72 md_X7_above (by omega) (by omega) rfl rfl (Nat.le_of_ble_eq_true rfl) dX7_sighsAs_65 (fun v4 S3 hm => ?_)
    refine cf_iload_n C dX7_sighsAs_68 rfl 2 rfl ?_
    refine cf_callVi C [.int v4, .int x2] [] okM_17.1 (ocell_7 okM_17.2.1) rfl q1045 q58 (hr_X7_sighsAs v4 x2 _ _  hm) q1043 q1046 q72 md_X7_sighsAs (by omega) (by omega) rfl rfl (Nat.le_of_ble_eq_true rfl) dX7_sighsAs_69 (fun v6 S5 hm => ?_)
    refine cf_iconst C dX7_sighsAs_72 (v := 4) rfl ?_
    refine cf_isub C dX7_sighsAs_73 ?_
    exact hR _ _ _ _ dX7_sighsAs_74 hm
  rcases ifc hm with ⟨hx, hm⟩ | ⟨h1_4, hm⟩
  · refine cf_tsIn C 4 dX7_sighsAs_1 (by rw [hx]; rfl) (by decide) (by decide) (off := 74) (by rfl) (tgt := 75) (by decide) ?_
    refine cf_aload_n C dX7_sighsAs_75 rfl 0 rfl ?_
    refine cf_bipush C dX7_sighsAs_76 (v := 50) rfl ?_
    refine cf_callVv C [.int 50] [] okM_17.1 (ocell_7 okM_17.2.1) rfl q1049 q59 (c_X7_starts (vL E) (vG E) 50 _ _  hm) q1047 q1050 q72 md_X7_starts (by omega) (by omega) rfl rfl (Nat.le_of_ble_eq_true rfl) dX7_sighsAs_78 (fun S7 hm => ?_)
    refine cf_aload_n C dX7_sighsAs_81 rfl 0 rfl ?_
    refine cf_iconst C dX7_sighsAs_82 (v := 4) rfl ?_
    refine cf_callSi C [.int 4] [.ref (adr (vG E) 17 0)] q907 (c_X7_above (vL E) (vG E) 4 _ _  hm) q906 q908 q72 md_X7_above (by omega) (by omega) rfl rfl (Nat.le_of_ble_eq_true rfl) dX7_sighsAs_83 (fun v9 S8 hm => ?_)
    refine cf_iload_n C dX7_sighsAs_86 rfl 2 rfl ?_
    refine cf_callVi C [.int v9, .int x2] [] okM_17.1 (ocell_7 okM_17.2.1) rfl q1045 q58 (hr_X7_sighsAs v9 x2 _ _  hm) q1043 q1046 q72 md_X7_sighsAs (by omega) (by omega) rfl rfl (Nat.le_of_ble_eq_true rfl) dX7_sighsAs_87 (fun v11 S10 hm => ?_)
    refine cf_iconst C dX7_sighsAs_90 (v := 3) rfl ?_
    refine cf_imul C dX7_sighsAs_91 ?_
    exact hR _ _ _ _ dX7_sighsAs_92 hm
  rcases ifc hm with ⟨hx, hm⟩ | ⟨h1_6, hm⟩
  · refine cf_tsIn C 6 dX7_sighsAs_1 (by rw [hx]; rfl) (by decide) (by decide) (off := 92) (by rfl) (tgt := 93) (by decide) ?_
    refine cf_aload_n C dX7_sighsAs_93 rfl 0 rfl ?_
    refine cf_bipush C dX7_sighsAs_94 (v := 70) rfl ?_
    refine cf_callVv C [.int 70] [] okM_17.1 (ocell_7 okM_17.2.1) rfl q1049 q59 (c_X7_starts (vL E) (vG E) 70 _ _  hm) q1047 q1050 q72 md_X7_starts (by omega) (by omega) rfl rfl (Nat.le_of_ble_eq_true rfl) dX7_sighsAs_96 (fun S12 hm => ?_)
    refine cf_bipush C dX7_sighsAs_99 (v := 9) rfl ?_
    exact hR _ _ _ _ dX7_sighsAs_101 hm
  refine cf_tsD C 7 [0, 1, 4, 6] dX7_sighsAs_1 (by decide) (by decide +kernel) (List.forall_mem_cons.mpr ⟨lv_neT h1_0 rfl, (List.forall_mem_cons.mpr ⟨lv_neT h1_1 rfl, (List.forall_mem_cons.mpr ⟨lv_neT h1_4 rfl, (List.forall_mem_cons.mpr ⟨lv_neT h1_6 rfl, (fun _ h => absurd h List.not_mem_nil)⟩)⟩)⟩)⟩) (tgt := 102) (by decide) ?_
  refine cf_aload_n C dX7_sighsAs_102 rfl 0 rfl ?_
  refine cf_iload_n C dX7_sighsAs_103 rfl 1 rfl ?_
  refine cf_callSi C [.int x1] [.ref (adr (vG E) 17 0)] q907 (c_X7_above (vL E) (vG E) x1 _ _  hm) q906 q908 q72 md_X7_above (by omega) (by omega) rfl rfl (Nat.le_of_ble_eq_true rfl) dX7_sighsAs_104 (fun v14 S13 hm => ?_)
  refine cf_iload_n C dX7_sighsAs_107 rfl 2 rfl ?_
  refine cf_callVi C [.int v14, .int x2] [] okM_17.1 (ocell_7 okM_17.2.1) rfl q1045 q58 (hr_X7_sighsAs v14 x2 _ _  hm) q1043 q1046 q72 md_X7_sighsAs (by omega) (by omega) rfl rfl (Nat.le_of_ble_eq_true rfl) dX7_sighsAs_108 (fun v16 S15 hm => ?_)
  exact hR _ _ _ _ dX7_sighsAs_111 hm
def G_X7_sighsAs : Nat → (Int32 → Int32 → St → (Int32 → St → Prop) → Prop)
  | 0 => (fun _ _ _ _ => False)
  | D + 1 => B_X7_sighsAs (G_X7_sighsAs D)
theorem cg_X7_sighsAs (l : Launch) (G : GX) : ∀ D : Nat, (∀ (x1 : Int32) (x2 : Int32) (S : St) (Q : Int32 → St → Prop), (G_X7_sighsAs D) x1 x2 S Q → CTi l yX7_sighsAs (Cond.code yX7_sighsAs cX7_sighsAs 3 (some .int) :: AW) { frames := D + 1, cells := 0, slots := 0, locals := 30 * D + 21 } G enM [.ref (adr G 17 0), .int x1, .int x2] S Q) := by
  intro D
  induction D with
  | zero => exact (fun _ _ _ _ hm => hm.elim)
  | succ D ih => exact (fun x1 x2 S Q  hm => cb_X7_sighsAs l G D ih x1 x2 S Q  hm)
def E_X7_sighsAs (x1 : Int32) (x2 : Int32) (S : St) (Q : Int32 → St → Prop) : Prop := (G_X7_sighsAs 64) x1 x2 S Q
theorem c_X7_sighsAs (l : Launch) (G : GX) (x1 : Int32) (x2 : Int32) (S : St) (Q : Int32 → St → Prop)  (hm : E_X7_sighsAs x1 x2 S Q) : CTi l yX7_sighsAs (Cond.code yX7_sighsAs cX7_sighsAs 3 (some .int) :: AW) { frames := 65, cells := 0, slots := 0, locals := 1941 } G enM [.ref (adr G 17 0), .int x1, .int x2] S Q := (cg_X7_sighsAs l G 64) x1 x2 S Q  hm

def E_X7_mNow  (S : St) (Q : Int32 → St → Prop) : Prop := E_X7_its (S.1 17 16) 1 S (fun v2 S1 => Q v2 S1)
set_option maxRecDepth 20000 in
theorem c_X7_mNow (l : Launch) (G : GX)  (S : St) (Q : Int32 → St → Prop)  (hm : E_X7_mNow  S Q) : CTi l yX7_mNow (Cond.code yX7_mNow cX7_mNow 1 (some .int) :: AW) { frames := 1, cells := 0, slots := 0, locals := 22 } G enM [.ref (adr G 17 0)] S Q := by
  refine ct_start_i (by decide) enM_nd (Nat.le_of_ble_eq_true rfl) (fun E hG hl C hR => ?_)
  subst hG
  subst hl
  show CF E S 0 [(0, .ref (adr (vG E) 17 0))] []
  unfold E_X7_mNow at hm
  refine cf_aload_n C dX7_mNow_0 rfl 0 rfl ?_
  refine cf_aload_n C dX7_mNow_1 rfl 0 rfl ?_
  refine gf_7_16 C inX7 okM_17 q710 dX7_mNow_2 ?_
  refine cf_iconst C dX7_mNow_5 (v := 1) rfl ?_
  refine cf_callVi C [.int (S.1 17 16), .int 1] [] okM_17.1 (ocell_7 okM_17.2.1) rfl q860 q36 (c_X7_its (vL E) (vG E) (S.1 17 16) 1 _ _  hm) q858 q861 q72 md_X7_its (Nat.le_of_ble_eq_true rfl) (Nat.le_of_ble_eq_true rfl) rfl rfl (Nat.le_of_ble_eq_true rfl) dX7_mNow_6 (fun v2 S1 hm => ?_)
  exact hR _ _ _ _ dX7_mNow_9 hm

def B_X7_asksAs (r_X7_asksAs : Int32 → Int32 → St → (Int32 → St → Prop) → Prop) (x1 : Int32) (x2 : Int32) (S : St) (Q : Int32 → St → Prop) : Prop := if x1 = 0 then (E_X7_starts 11 S (fun S1 => E_X7_kindNow S1 (fun v3 S2 => E_X7_sighsAs v3 x2 S2 (fun v5 S4 => Q (v5 * 2) S4)))) else (if x1 = 2 then (E_X7_starts 30 S (fun S6 => E_X7_above 2 S6 (fun v8 S7 => r_X7_asksAs v8 x2 S7 (fun v10 S9 => Q (0 - v10) S9)))) else (if x1 = 5 then (E_X7_starts 60 S (fun S11 => E_X7_above 5 S11 (fun v13 S12 => r_X7_asksAs v13 (x2 + 1) S12 (fun v15 S14 => Q v15 S14)))) else (if x1 = 6 then (E_X7_starts 71 S (fun S16 => E_X7_above 6 S16 (fun v18 S17 => r_X7_asksAs v18 x2 S17 (fun v20 S19 => E_X7_mNow S19 (fun v22 S21 => Q (v20 + v22) S21))))) else (E_X7_above x1 S (fun v24 S23 => r_X7_asksAs v24 x2 S23 (fun v26 S25 => Q v26 S25))))))
set_option maxRecDepth 20000 in
theorem cb_X7_asksAs (l : Launch) (G : GX) (D : Nat) {r_X7_asksAs : Int32 → Int32 → St → (Int32 → St → Prop) → Prop} (hr_X7_asksAs : ∀ (x1 : Int32) (x2 : Int32) (S : St) (Q : Int32 → St → Prop), r_X7_asksAs x1 x2 S Q → CTi l yX7_asksAs (Cond.code yX7_asksAs cX7_asksAs 3 (some .int) :: AW) { frames := D + 66, cells := 0, slots := 0, locals := 30 * D + 1963 } G enM [.ref (adr G 17 0), .int x1, .int x2] S Q) (x1 : Int32) (x2 : Int32) (S : St) (Q : Int32 → St → Prop)  (hm : B_X7_asksAs r_X7_asksAs x1 x2 S Q) : CTi l yX7_asksAs (Cond.code yX7_asksAs cX7_asksAs 3 (some .int) :: AW) { frames := (D + 1 + 66), cells := 0, slots := 0, locals := (30 * (D + 1) + 1963) } G enM [.ref (adr G 17 0), .int x1, .int x2] S Q := by
  refine ct_start_i (by decide) enM_nd (Nat.le_of_ble_eq_true rfl) (fun E hG hl C hR => ?_)
  subst hG
  subst hl
  show CF E S 0 [(0, .ref (adr (vG E) 17 0)), (1, .int x1), (2, .int x2)] []
  unfold B_X7_asksAs at hm
  refine cf_iload_n C dX7_asksAs_0 rfl 1 rfl ?_
  rcases ifc hm with ⟨hx, hm⟩ | ⟨h1_0, hm⟩
  · refine cf_tsIn C 0 dX7_asksAs_1 (by rw [hx]; rfl) (by decide) (by decide) (off := 43) (by rfl) (tgt := 44) (by decide) ?_
    refine cf_aload_n C dX7_asksAs_44 rfl 0 rfl ?_
    refine cf_bipush C dX7_asksAs_45 (v := 11) rfl ?_
    refine cf_callVv C [.int 11] [] okM_17.1 (ocell_7 okM_17.2.1) rfl q1049 q59 (c_X7_starts (vL E) (vG E) 11 _ _  hm) q1047 q1050 q72 md_X7_starts (by omega) (by omega) rfl rfl (Nat.le_of_ble_eq_true rfl) dX7_asksAs_47 (fun S1 hm => ?_)
    refine cf_aload_n C dX7_asksAs_50 rfl 0 rfl ?_
    refine cf_aload_n C dX7_asksAs_51 rfl 0 rfl ?_
    refine cf_callVi C [] [.ref (adr (vG E) 17 0)] okM_17.1 (ocell_7 okM_17.2.1) rfl q1041 q57 (c_X7_kindNow (vL E) (vG E)  _ _  hm) q1039 q1042 q72 md_X7_kindNow (by omega) (by omega) rfl rfl (Nat.le_of_ble_eq_true rfl) dX7_asksAs_52 (fun v3 S2 hm => ?_)
    refine cf_iload_n C dX7_asksAs_55 rfl 2 rfl ?_
    refine cf_callVi C [.int v3, .int x2] [] okM_17.1 (ocell_7 okM_17.2.1) rfl q1045 q58 (c_X7_sighsAs (vL E) (vG E) v3 x2 _ _  hm) q1043 q1046 q72 md_X7_sighsAs (by omega) (by omega) rfl rfl (Nat.le_of_ble_eq_true rfl) dX7_asksAs_56 (fun v5 S4 hm => ?_)
    refine cf_iconst C dX7_asksAs_59 (v := 2) rfl ?_
    refine cf_imul C dX7_asksAs_60 ?_
    exact hR _ _ _ _ dX7_asksAs_61 hm
  rcases ifc hm with ⟨hx, hm⟩ | ⟨h1_2, hm⟩
  · refine cf_tsIn C 2 dX7_asksAs_1 (by rw [hx]; rfl) (by decide) (by decide) (off := 61) (by rfl) (tgt := 62) (by decide) ?_
    refine cf_aload_n C dX7_asksAs_62 rfl 0 rfl ?_
    refine cf_bipush C dX7_asksAs_63 (v := 30) rfl ?_
    refine cf_callVv C [.int 30] [] okM_17.1 (ocell_7 okM_17.2.1) rfl q1049 q59 (c_X7_starts (vL E) (vG E) 30 _ _  hm) q1047 q1050 q72 md_X7_starts (by omega) (by omega) rfl rfl (Nat.le_of_ble_eq_true rfl) dX7_asksAs_65 (fun S6 hm => ?_)
    refine cf_iconst C dX7_asksAs_68 (v := 0) rfl ?_
    refine cf_aload_n C dX7_asksAs_69 rfl 0 rfl ?_
    refine cf_iconst C dX7_asksAs_70 (v := 2) rfl ?_
    refine cf_callSi C [.int 2] [.ref (adr (vG E) 17 0), .int 0] q907 (c_X7_above (vL E) (vG E) 2 _ _  hm) q906 q908 q72 md_X7_above (by omega) (by omega) rfl rfl (Nat.le_of_ble_eq_true rfl) dX7_asksAs_71 (fun v8 S7 hm => ?_)
    refine cf_iload_n C dX7_asksAs_74 rfl 2 rfl ?_
    refine cf_callVi C [.int v8, .int x2] [.int 0] okM_17.1 (ocell_7 okM_17.2.1) rfl q1053 q60 (hr_X7_asksAs v8 x2 _ _  hm) q1051 q1054 q72 md_X7_asksAs (by omega) (by omega) rfl rfl (Nat.le_of_ble_eq_true rfl) dX7_asksAs_75 (fun v10 S9 hm => ?_)
    refine cf_isub C dX7_asksAs_78 ?_
    exact hR _ _ _ _ dX7_asksAs_79 hm
  rcases ifc hm with ⟨hx, hm⟩ | ⟨h1_5, hm⟩
  · refine cf_tsIn C 5 dX7_asksAs_1 (by rw [hx]; rfl) (by decide) (by decide) (off := 79) (by rfl) (tgt := 80) (by decide) ?_
    refine cf_aload_n C dX7_asksAs_80 rfl 0 rfl ?_
    refine cf_bipush C dX7_asksAs_81 (v := 60) rfl ?_
    refine cf_callVv C [.int 60] [] okM_17.1 (ocell_7 okM_17.2.1) rfl q1049 q59 (c_X7_starts (vL E) (vG E) 60 _ _  hm) q1047 q1050 q72 md_X7_starts (by omega) (by omega) rfl rfl (Nat.le_of_ble_eq_true rfl) dX7_asksAs_83 (fun S11 hm => ?_)
    refine cf_aload_n C dX7_asksAs_86 rfl 0 rfl ?_
    refine cf_iconst C dX7_asksAs_87 (v := 5) rfl ?_
    refine cf_callSi C [.int 5] [.ref (adr (vG E) 17 0)] q907 (c_X7_above (vL E) (vG E) 5 _ _  hm) q906 q908 q72 md_X7_above (by omega) (by omega) rfl rfl (Nat.le_of_ble_eq_true rfl) dX7_asksAs_88 (fun v13 S12 hm => ?_)
    refine cf_iload_n C dX7_asksAs_91 rfl 2 rfl ?_
    refine cf_iconst C dX7_asksAs_92 (v := 1) rfl ?_
    refine cf_iadd C dX7_asksAs_93 ?_
    refine cf_callVi C [.int v13, .int (x2 + 1)] [] okM_17.1 (ocell_7 okM_17.2.1) rfl q1053 q60 (hr_X7_asksAs v13 (x2 + 1) _ _  hm) q1051 q1054 q72 md_X7_asksAs (by omega) (by omega) rfl rfl (Nat.le_of_ble_eq_true rfl) dX7_asksAs_94 (fun v15 S14 hm => ?_)
    exact hR _ _ _ _ dX7_asksAs_97 hm
  rcases ifc hm with ⟨hx, hm⟩ | ⟨h1_6, hm⟩
  · refine cf_tsIn C 6 dX7_asksAs_1 (by rw [hx]; rfl) (by decide) (by decide) (off := 97) (by rfl) (tgt := 98) (by decide) ?_
    refine cf_aload_n C dX7_asksAs_98 rfl 0 rfl ?_
    refine cf_bipush C dX7_asksAs_99 (v := 71) rfl ?_
    refine cf_callVv C [.int 71] [] okM_17.1 (ocell_7 okM_17.2.1) rfl q1049 q59 (c_X7_starts (vL E) (vG E) 71 _ _  hm) q1047 q1050 q72 md_X7_starts (by omega) (by omega) rfl rfl (Nat.le_of_ble_eq_true rfl) dX7_asksAs_101 (fun S16 hm => ?_)
    refine cf_aload_n C dX7_asksAs_104 rfl 0 rfl ?_
    refine cf_bipush C dX7_asksAs_105 (v := 6) rfl ?_
    refine cf_callSi C [.int 6] [.ref (adr (vG E) 17 0)] q907 (c_X7_above (vL E) (vG E) 6 _ _  hm) q906 q908 q72 md_X7_above (by omega) (by omega) rfl rfl (Nat.le_of_ble_eq_true rfl) dX7_asksAs_107 (fun v18 S17 hm => ?_)
    refine cf_iload_n C dX7_asksAs_110 rfl 2 rfl ?_
    refine cf_callVi C [.int v18, .int x2] [] okM_17.1 (ocell_7 okM_17.2.1) rfl q1053 q60 (hr_X7_asksAs v18 x2 _ _  hm) q1051 q1054 q72 md_X7_asksAs (by omega) (by omega) rfl rfl (Nat.le_of_ble_eq_true rfl) dX7_asksAs_111 (fun v20 S19 hm => ?_)
    refine cf_aload_n C dX7_asksAs_114 rfl 0 rfl ?_
    refine cf_callVi C [] [.int v20] okM_17.1 (ocell_7 okM_17.2.1) rfl q1057 q61 (c_X7_mNow (vL E) (vG E)  _ _  hm) q1055 q1058 q72 md_X7_mNow (by omega) (by omega) rfl rfl (Nat.le_of_ble_eq_true rfl) dX7_asksAs_115 (fun v22 S21 hm => ?_)
    refine cf_iadd C dX7_asksAs_118 ?_
    exact hR _ _ _ _ dX7_asksAs_119 hm
  refine cf_tsD C 7 [0, 2, 5, 6] dX7_asksAs_1 (by decide) (by decide +kernel) (List.forall_mem_cons.mpr ⟨lv_neT h1_0 rfl, (List.forall_mem_cons.mpr ⟨lv_neT h1_2 rfl, (List.forall_mem_cons.mpr ⟨lv_neT h1_5 rfl, (List.forall_mem_cons.mpr ⟨lv_neT h1_6 rfl, (fun _ h => absurd h List.not_mem_nil)⟩)⟩)⟩)⟩) (tgt := 120) (by decide) ?_
  refine cf_aload_n C dX7_asksAs_120 rfl 0 rfl ?_
  refine cf_iload_n C dX7_asksAs_121 rfl 1 rfl ?_
  refine cf_callSi C [.int x1] [.ref (adr (vG E) 17 0)] q907 (c_X7_above (vL E) (vG E) x1 _ _  hm) q906 q908 q72 md_X7_above (by omega) (by omega) rfl rfl (Nat.le_of_ble_eq_true rfl) dX7_asksAs_122 (fun v24 S23 hm => ?_)
  refine cf_iload_n C dX7_asksAs_125 rfl 2 rfl ?_
  refine cf_callVi C [.int v24, .int x2] [] okM_17.1 (ocell_7 okM_17.2.1) rfl q1053 q60 (hr_X7_asksAs v24 x2 _ _  hm) q1051 q1054 q72 md_X7_asksAs (by omega) (by omega) rfl rfl (Nat.le_of_ble_eq_true rfl) dX7_asksAs_126 (fun v26 S25 hm => ?_)
  exact hR _ _ _ _ dX7_asksAs_129 hm
def G_X7_asksAs : Nat → (Int32 → Int32 → St → (Int32 → St → Prop) → Prop)
  | 0 => (fun _ _ _ _ => False)
  | D + 1 => B_X7_asksAs (G_X7_asksAs D)
theorem cg_X7_asksAs (l : Launch) (G : GX) : ∀ D : Nat, (∀ (x1 : Int32) (x2 : Int32) (S : St) (Q : Int32 → St → Prop), (G_X7_asksAs D) x1 x2 S Q → CTi l yX7_asksAs (Cond.code yX7_asksAs cX7_asksAs 3 (some .int) :: AW) { frames := D + 66, cells := 0, slots := 0, locals := 30 * D + 1963 } G enM [.ref (adr G 17 0), .int x1, .int x2] S Q) := by
  intro D
  induction D with
  | zero => exact (fun _ _ _ _ hm => hm.elim)
  | succ D ih => exact (fun x1 x2 S Q  hm => cb_X7_asksAs l G D ih x1 x2 S Q  hm)
def E_X7_asksAs (x1 : Int32) (x2 : Int32) (S : St) (Q : Int32 → St → Prop) : Prop := (G_X7_asksAs 64) x1 x2 S Q
theorem c_X7_asksAs (l : Launch) (G : GX) (x1 : Int32) (x2 : Int32) (S : St) (Q : Int32 → St → Prop)  (hm : E_X7_asksAs x1 x2 S Q) : CTi l yX7_asksAs (Cond.code yX7_asksAs cX7_asksAs 3 (some .int) :: AW) { frames := 130, cells := 0, slots := 0, locals := 3883 } G enM [.ref (adr G 17 0), .int x1, .int x2] S Q := (cg_X7_asksAs l G 64) x1 x2 S Q  hm

def B_X7_scrapesAs (r_X7_scrapesAs : Int32 → Int32 → St → (Int32 → St → Prop) → Prop) (x1 : Int32) (x2 : Int32) (S : St) (Q : Int32 → St → Prop) : Prop := if x1 = 0 then (E_X7_starts 12 S (fun S1 => E_X7_kindNow S1 (fun v3 S2 => E_X7_asksAs v3 x2 S2 (fun v5 S4 => E_X7_mNow S4 (fun v7 S6 => Q (v5 - v7) S6))))) else (if x1 = 3 then (E_X7_starts 40 S (fun S8 => E_X7_above 3 S8 (fun v10 S9 => r_X7_scrapesAs v10 (x2 / 2) S9 (fun v12 S11 => Q v12 S11)))) else (if x1 = 4 then (E_X7_starts 51 S (fun S13 => E_X7_above 4 S13 (fun v15 S14 => r_X7_scrapesAs v15 x2 S14 (fun v17 S16 => Q (v17 ^^^ (S16.1 17 16)) S16)))) else (E_X7_above x1 S (fun v19 S18 => r_X7_scrapesAs v19 x2 S18 (fun v21 S20 => Q v21 S20)))))
set_option maxRecDepth 20000 in
theorem cb_X7_scrapesAs (l : Launch) (G : GX) (D : Nat) {r_X7_scrapesAs : Int32 → Int32 → St → (Int32 → St → Prop) → Prop} (hr_X7_scrapesAs : ∀ (x1 : Int32) (x2 : Int32) (S : St) (Q : Int32 → St → Prop), r_X7_scrapesAs x1 x2 S Q → CTi l yX7_scrapesAs (Cond.code yX7_scrapesAs cX7_scrapesAs 3 (some .int) :: AW) { frames := D + 131, cells := 0, slots := 0, locals := 30 * D + 3905 } G enM [.ref (adr G 17 0), .int x1, .int x2] S Q) (x1 : Int32) (x2 : Int32) (S : St) (Q : Int32 → St → Prop)  (hm : B_X7_scrapesAs r_X7_scrapesAs x1 x2 S Q) : CTi l yX7_scrapesAs (Cond.code yX7_scrapesAs cX7_scrapesAs 3 (some .int) :: AW) { frames := (D + 1 + 131), cells := 0, slots := 0, locals := (30 * (D + 1) + 3905) } G enM [.ref (adr G 17 0), .int x1, .int x2] S Q := by
  refine ct_start_i (by decide) enM_nd (Nat.le_of_ble_eq_true rfl) (fun E hG hl C hR => ?_)
  subst hG
  subst hl
  show CF E S 0 [(0, .ref (adr (vG E) 17 0)), (1, .int x1), (2, .int x2)] []
  unfold B_X7_scrapesAs at hm
  refine cf_iload_n C dX7_scrapesAs_0 rfl 1 rfl ?_
  rcases ifc hm with ⟨hx, hm⟩ | ⟨h1_0, hm⟩
  · refine cf_tsIn C 0 dX7_scrapesAs_1 (by rw [hx]; rfl) (by decide) (by decide) (off := 35) (by rfl) (tgt := 36) (by decide) ?_
    refine cf_aload_n C dX7_scrapesAs_36 rfl 0 rfl ?_
    refine cf_bipush C dX7_scrapesAs_37 (v := 12) rfl ?_
    refine cf_callVv C [.int 12] [] okM_17.1 (ocell_7 okM_17.2.1) rfl q1049 q59 (c_X7_starts (vL E) (vG E) 12 _ _  hm) q1047 q1050 q72 md_X7_starts (by omega) (by omega) rfl rfl (Nat.le_of_ble_eq_true rfl) dX7_scrapesAs_39 (fun S1 hm => ?_)
    refine cf_aload_n C dX7_scrapesAs_42 rfl 0 rfl ?_
    refine cf_aload_n C dX7_scrapesAs_43 rfl 0 rfl ?_
    refine cf_callVi C [] [.ref (adr (vG E) 17 0)] okM_17.1 (ocell_7 okM_17.2.1) rfl q1041 q57 (c_X7_kindNow (vL E) (vG E)  _ _  hm) q1039 q1042 q72 md_X7_kindNow (by omega) (by omega) rfl rfl (Nat.le_of_ble_eq_true rfl) dX7_scrapesAs_44 (fun v3 S2 hm => ?_)
    refine cf_iload_n C dX7_scrapesAs_47 rfl 2 rfl ?_
    refine cf_callVi C [.int v3, .int x2] [] okM_17.1 (ocell_7 okM_17.2.1) rfl q1053 q60 (c_X7_asksAs (vL E) (vG E) v3 x2 _ _  hm) q1051 q1054 q72 md_X7_asksAs (by omega) (by omega) rfl rfl (Nat.le_of_ble_eq_true rfl) dX7_scrapesAs_48 (fun v5 S4 hm => ?_)
    refine cf_aload_n C dX7_scrapesAs_51 rfl 0 rfl ?_
    refine cf_callVi C [] [.int v5] okM_17.1 (ocell_7 okM_17.2.1) rfl q1057 q61 (c_X7_mNow (vL E) (vG E)  _ _  hm) q1055 q1058 q72 md_X7_mNow (by omega) (by omega) rfl rfl (Nat.le_of_ble_eq_true rfl) dX7_scrapesAs_52 (fun v7 S6 hm => ?_)
    refine cf_isub C dX7_scrapesAs_55 ?_
    exact hR _ _ _ _ dX7_scrapesAs_56 hm
  rcases ifc hm with ⟨hx, hm⟩ | ⟨h1_3, hm⟩
  · refine cf_tsIn C 3 dX7_scrapesAs_1 (by rw [hx]; rfl) (by decide) (by decide) (off := 56) (by rfl) (tgt := 57) (by decide) ?_
    refine cf_aload_n C dX7_scrapesAs_57 rfl 0 rfl ?_
    refine cf_bipush C dX7_scrapesAs_58 (v := 40) rfl ?_
    refine cf_callVv C [.int 40] [] okM_17.1 (ocell_7 okM_17.2.1) rfl q1049 q59 (c_X7_starts (vL E) (vG E) 40 _ _  hm) q1047 q1050 q72 md_X7_starts (by omega) (by omega) rfl rfl (Nat.le_of_ble_eq_true rfl) dX7_scrapesAs_60 (fun S8 hm => ?_)
    refine cf_aload_n C dX7_scrapesAs_63 rfl 0 rfl ?_
    refine cf_iconst C dX7_scrapesAs_64 (v := 3) rfl ?_
    refine cf_callSi C [.int 3] [.ref (adr (vG E) 17 0)] q907 (c_X7_above (vL E) (vG E) 3 _ _  hm) q906 q908 q72 md_X7_above (by omega) (by omega) rfl rfl (Nat.le_of_ble_eq_true rfl) dX7_scrapesAs_65 (fun v10 S9 hm => ?_)
    refine cf_iload_n C dX7_scrapesAs_68 rfl 2 rfl ?_
    refine cf_iconst C dX7_scrapesAs_69 (v := 2) rfl ?_
    refine cf_idivC C dX7_scrapesAs_70 (by decide) ?_
    refine cf_callVi C [.int v10, .int (x2 / 2)] [] okM_17.1 (ocell_7 okM_17.2.1) rfl q1061 q62 (hr_X7_scrapesAs v10 (x2 / 2) _ _  hm) q1059 q1062 q72 md_X7_scrapesAs (by omega) (by omega) rfl rfl (Nat.le_of_ble_eq_true rfl) dX7_scrapesAs_71 (fun v12 S11 hm => ?_)
    exact hR _ _ _ _ dX7_scrapesAs_74 hm
  rcases ifc hm with ⟨hx, hm⟩ | ⟨h1_4, hm⟩
  · refine cf_tsIn C 4 dX7_scrapesAs_1 (by rw [hx]; rfl) (by decide) (by decide) (off := 74) (by rfl) (tgt := 75) (by decide) ?_
    refine cf_aload_n C dX7_scrapesAs_75 rfl 0 rfl ?_
    refine cf_bipush C dX7_scrapesAs_76 (v := 51) rfl ?_
    refine cf_callVv C [.int 51] [] okM_17.1 (ocell_7 okM_17.2.1) rfl q1049 q59 (c_X7_starts (vL E) (vG E) 51 _ _  hm) q1047 q1050 q72 md_X7_starts (by omega) (by omega) rfl rfl (Nat.le_of_ble_eq_true rfl) dX7_scrapesAs_78 (fun S13 hm => ?_)
    refine cf_aload_n C dX7_scrapesAs_81 rfl 0 rfl ?_
    refine cf_iconst C dX7_scrapesAs_82 (v := 4) rfl ?_
    refine cf_callSi C [.int 4] [.ref (adr (vG E) 17 0)] q907 (c_X7_above (vL E) (vG E) 4 _ _  hm) q906 q908 q72 md_X7_above (by omega) (by omega) rfl rfl (Nat.le_of_ble_eq_true rfl) dX7_scrapesAs_83 (fun v15 S14 hm => ?_)
    refine cf_iload_n C dX7_scrapesAs_86 rfl 2 rfl ?_
    refine cf_callVi C [.int v15, .int x2] [] okM_17.1 (ocell_7 okM_17.2.1) rfl q1061 q62 (hr_X7_scrapesAs v15 x2 _ _  hm) q1059 q1062 q72 md_X7_scrapesAs (by omega) (by omega) rfl rfl (Nat.le_of_ble_eq_true rfl) dX7_scrapesAs_87 (fun v17 S16 hm => ?_)
    refine cf_aload_n C dX7_scrapesAs_90 rfl 0 rfl ?_
    refine gf_7_16 C inX7 okM_17 q710 dX7_scrapesAs_91 ?_
    refine cf_ixor C dX7_scrapesAs_94 ?_
    exact hR _ _ _ _ dX7_scrapesAs_95 hm
  refine cf_tsD C 5 [0, 3, 4] dX7_scrapesAs_1 (by decide) (by decide +kernel) (List.forall_mem_cons.mpr ⟨lv_neT h1_0 rfl, (List.forall_mem_cons.mpr ⟨lv_neT h1_3 rfl, (List.forall_mem_cons.mpr ⟨lv_neT h1_4 rfl, (fun _ h => absurd h List.not_mem_nil)⟩)⟩)⟩) (tgt := 96) (by decide) ?_
  refine cf_aload_n C dX7_scrapesAs_96 rfl 0 rfl ?_
  refine cf_iload_n C dX7_scrapesAs_97 rfl 1 rfl ?_
  refine cf_callSi C [.int x1] [.ref (adr (vG E) 17 0)] q907 (c_X7_above (vL E) (vG E) x1 _ _  hm) q906 q908 q72 md_X7_above (by omega) (by omega) rfl rfl (Nat.le_of_ble_eq_true rfl) dX7_scrapesAs_98 (fun v19 S18 hm => ?_)
  refine cf_iload_n C dX7_scrapesAs_101 rfl 2 rfl ?_
  refine cf_callVi C [.int v19, .int x2] [] okM_17.1 (ocell_7 okM_17.2.1) rfl q1061 q62 (hr_X7_scrapesAs v19 x2 _ _  hm) q1059 q1062 q72 md_X7_scrapesAs (by omega) (by omega) rfl rfl (Nat.le_of_ble_eq_true rfl) dX7_scrapesAs_102 (fun v21 S20 hm => ?_)
  exact hR _ _ _ _ dX7_scrapesAs_105 hm
def G_X7_scrapesAs : Nat → (Int32 → Int32 → St → (Int32 → St → Prop) → Prop)
  | 0 => (fun _ _ _ _ => False)
  | D + 1 => B_X7_scrapesAs (G_X7_scrapesAs D)
theorem cg_X7_scrapesAs (l : Launch) (G : GX) : ∀ D : Nat, (∀ (x1 : Int32) (x2 : Int32) (S : St) (Q : Int32 → St → Prop), (G_X7_scrapesAs D) x1 x2 S Q → CTi l yX7_scrapesAs (Cond.code yX7_scrapesAs cX7_scrapesAs 3 (some .int) :: AW) { frames := D + 131, cells := 0, slots := 0, locals := 30 * D + 3905 } G enM [.ref (adr G 17 0), .int x1, .int x2] S Q) := by
  intro D
  induction D with
  | zero => exact (fun _ _ _ _ hm => hm.elim)
  | succ D ih => exact (fun x1 x2 S Q  hm => cb_X7_scrapesAs l G D ih x1 x2 S Q  hm)
def E_X7_scrapesAs (x1 : Int32) (x2 : Int32) (S : St) (Q : Int32 → St → Prop) : Prop := (G_X7_scrapesAs 64) x1 x2 S Q
theorem c_X7_scrapesAs (l : Launch) (G : GX) (x1 : Int32) (x2 : Int32) (S : St) (Q : Int32 → St → Prop)  (hm : E_X7_scrapesAs x1 x2 S Q) : CTi l yX7_scrapesAs (Cond.code yX7_scrapesAs cX7_scrapesAs 3 (some .int) :: AW) { frames := 195, cells := 0, slots := 0, locals := 5825 } G enM [.ref (adr G 17 0), .int x1, .int x2] S Q := (cg_X7_scrapesAs l G 64) x1 x2 S Q  hm

def J_X7_partsAs_54  (r_X7_partsAs : Int32 → Int32 → St → (Int32 → St → Prop) → Prop)  (Q : Int32 → St → Prop) (x2 : Int32) (x3 : Int32) (t0 : Int32) (S : St) : Prop := (t0 = 0 ∨ t0 = 1) ∧ (nmS (stI S 17 17 t0) (fun S5 => if x3 = 0 then (Q 0 S5) else (if x3 = (-1) then (Q (-x2) S5) else ((¬ x3 = 0) ∧ (Q (x2 / x3) S5)))))
set_option maxRecDepth 20000 in
theorem w_J_X7_partsAs_54 {E : EV} {Q : Int32 → St → Prop}  {r_X7_partsAs : Int32 → Int32 → St → (Int32 → St → Prop) → Prop} {D : Nat} (C : CX E cX7_partsAs RX7 5 enM (D + 1 + 131) (30 * (D + 1) + 3905))  (hr_X7_partsAs : ∀ (x1 : Int32) (x2 : Int32) (S : St) (Q : Int32 → St → Prop), r_X7_partsAs x1 x2 S Q → CTi (vL E) yX7_partsAs (Cond.code yX7_partsAs cX7_partsAs 5 (some .int) :: AW) { frames := D + 131, cells := 0, slots := 0, locals := 30 * D + 3905 } (vG E) enM [.ref (adr (vG E) 17 0), .int x1, .int x2] S Q) (hR : RTi E cX7_partsAs Q) : ∀ (x2 : Int32) (x3 : Int32) (t0 : Int32) (S : St), J_X7_partsAs_54 r_X7_partsAs Q x2 x3 t0 S → CF E S 54 [(2, .int x2), (3, .int x3)] [.int t0, .ref (adr (vG E) 17 0)] := by
  intro x2 x3 t0 S hm
  unfold J_X7_partsAs_54 at hm
  obtain ⟨hz, hm⟩ := hm
  refine pf_7_17 C inX7 hz okM_17 q711 dX7_partsAs_54 ?_
  refine cf_nmS hm (fun S5 hm => ?_)
  refine cf_iload_n C dX7_partsAs_57 rfl 1 rfl ?_
  refine cf_if_ne C (tgt := 65) dX7_partsAs_58 (by decide) hm (fun hm => ?_) (fun hm => ?_)
  · refine cf_iload_n C dX7_partsAs_65 rfl 1 rfl ?_
    refine cf_iconst C dX7_partsAs_66 (v := (-1)) rfl ?_
    refine cf_icmp_ne C (tgt := 75) dX7_partsAs_67 (by decide) hm (fun hm => ?_) (fun hm => ?_)
    · refine cf_iload_n C dX7_partsAs_75 rfl 0 rfl ?_
      refine cf_iload_n C dX7_partsAs_76 rfl 1 rfl ?_
      refine cf_idiv C dX7_partsAs_77 hm (fun hm => ?_)
      exact hR _ _ _ _ dX7_partsAs_78 hm
    · refine cf_iload_n C dX7_partsAs_70 rfl 0 rfl ?_
      refine cf_ineg C dX7_partsAs_71 ?_
      refine cf_goto C (tgt := 78) dX7_partsAs_72 (by decide) ?_
      exact hR _ _ _ _ dX7_partsAs_78 hm
  · refine cf_iconst C dX7_partsAs_61 (v := 0) rfl ?_
    refine cf_goto C (tgt := 78) dX7_partsAs_62 (by decide) ?_
    exact hR _ _ _ _ dX7_partsAs_78 hm
def B_X7_partsAs (r_X7_partsAs : Int32 → Int32 → St → (Int32 → St → Prop) → Prop) (x1 : Int32) (x2 : Int32) (S : St) (Q : Int32 → St → Prop) : Prop := if x1 = 0 then (E_X7_starts 13 S (fun S1 => E_X7_mNow S1 (fun v3 S2 => nmI (v3 - (S2.1 17 16)) (fun v4 => if v4 = 0 then (J_X7_partsAs_54 r_X7_partsAs Q x2 v4 1 S2) else (J_X7_partsAs_54 r_X7_partsAs Q x2 v4 0 S2))))) else (if x1 = 1 then (E_X7_starts 21 S (fun S6 => E_X7_above 1 S6 (fun v8 S7 => r_X7_partsAs v8 x2 S7 (fun v10 S9 => if (S9.1 17 17) = 0 then (E_X7_kindNow S9 (fun v12 S11 => E_X7_asksAs v12 1 S11 (fun v14 S13 => Q (v10 + v14) S13))) else (Q 0 S9))))) else (E_X7_above x1 S (fun v16 S15 => r_X7_partsAs v16 x2 S15 (fun v18 S17 => Q v18 S17))))
set_option maxRecDepth 20000 in
theorem cb_X7_partsAs (l : Launch) (G : GX) (D : Nat) {r_X7_partsAs : Int32 → Int32 → St → (Int32 → St → Prop) → Prop} (hr_X7_partsAs : ∀ (x1 : Int32) (x2 : Int32) (S : St) (Q : Int32 → St → Prop), r_X7_partsAs x1 x2 S Q → CTi l yX7_partsAs (Cond.code yX7_partsAs cX7_partsAs 5 (some .int) :: AW) { frames := D + 131, cells := 0, slots := 0, locals := 30 * D + 3905 } G enM [.ref (adr G 17 0), .int x1, .int x2] S Q) (x1 : Int32) (x2 : Int32) (S : St) (Q : Int32 → St → Prop)  (hm : B_X7_partsAs r_X7_partsAs x1 x2 S Q) : CTi l yX7_partsAs (Cond.code yX7_partsAs cX7_partsAs 5 (some .int) :: AW) { frames := (D + 1 + 131), cells := 0, slots := 0, locals := (30 * (D + 1) + 3905) } G enM [.ref (adr G 17 0), .int x1, .int x2] S Q := by
  refine ct_start_i (by decide) enM_nd (Nat.le_of_ble_eq_true rfl) (fun E hG hl C hR => ?_)
  subst hG
  subst hl
  show CF E S 0 [(0, .ref (adr (vG E) 17 0)), (1, .int x1), (2, .int x2)] []
  unfold B_X7_partsAs at hm
  refine cf_iload_n C dX7_partsAs_0 rfl 1 rfl ?_
  rcases ifc hm with ⟨hx, hm⟩ | ⟨h1_0, hm⟩
  · refine cf_lk C dX7_partsAs_1 (by decide +kernel) (off := 27) (by rw [hx]; rfl) (tgt := 28) (by decide) ?_
    refine cf_aload_n C dX7_partsAs_28 rfl 0 rfl ?_
    refine cf_bipush C dX7_partsAs_29 (v := 13) rfl ?_
    refine cf_callVv C [.int 13] [] okM_17.1 (ocell_7 okM_17.2.1) rfl q1049 q59 (c_X7_starts (vL E) (vG E) 13 _ _  hm) q1047 q1050 q72 md_X7_starts (by omega) (by omega) rfl rfl (Nat.le_of_ble_eq_true rfl) dX7_partsAs_31 (fun S1 hm => ?_)
    refine cf_aload_n C dX7_partsAs_34 rfl 0 rfl ?_
    refine cf_callVi C [] [] okM_17.1 (ocell_7 okM_17.2.1) rfl q1057 q61 (c_X7_mNow (vL E) (vG E)  _ _  hm) q1055 q1058 q72 md_X7_mNow (by omega) (by omega) rfl rfl (Nat.le_of_ble_eq_true rfl) dX7_partsAs_35 (fun v3 S2 hm => ?_)
    refine cf_aload_n C dX7_partsAs_38 rfl 0 rfl ?_
    refine gf_7_16 C inX7 okM_17 q710 dX7_partsAs_39 ?_
    refine cf_isub C dX7_partsAs_42 ?_
    refine cf_nmI hm (fun v4 hm => ?_)
    refine cf_istore_n C (L1 := [(3, .int v4), (0, .ref (adr (vG E) 17 0)), (1, .int x1), (2, .int x2)]) dX7_partsAs_43 rfl (by decide) rfl ?_
    refine cf_aload_n C dX7_partsAs_44 rfl 1 rfl ?_
    refine cf_iload_n C dX7_partsAs_45 rfl 0 rfl ?_
    refine cf_if_ne C (tgt := 53) dX7_partsAs_46 (by decide) hm (fun hm => ?_) (fun hm => ?_)
    · refine cf_iconst C dX7_partsAs_53 (v := 0) rfl ?_
      refine cf_sub C [3, 0] rfl ?_
      exact w_J_X7_partsAs_54 C hr_X7_partsAs hR x2 v4 0 _ hm
    · refine cf_iconst C dX7_partsAs_49 (v := 1) rfl ?_
      refine cf_goto C (tgt := 54) dX7_partsAs_50 (by decide) ?_
      refine cf_sub C [3, 0] rfl ?_
      exact w_J_X7_partsAs_54 C hr_X7_partsAs hR x2 v4 1 _ hm
  rcases ifc hm with ⟨hx, hm⟩ | ⟨h1_1, hm⟩
  · refine cf_lk C dX7_partsAs_1 (by decide +kernel) (off := 78) (by rw [hx]; rfl) (tgt := 79) (by decide) ?_
    refine cf_aload_n C dX7_partsAs_79 rfl 0 rfl ?_
    refine cf_bipush C dX7_partsAs_80 (v := 21) rfl ?_
    refine cf_callVv C [.int 21] [] okM_17.1 (ocell_7 okM_17.2.1) rfl q1049 q59 (c_X7_starts (vL E) (vG E) 21 _ _  hm) q1047 q1050 q72 md_X7_starts (by omega) (by omega) rfl rfl (Nat.le_of_ble_eq_true rfl) dX7_partsAs_82 (fun S6 hm => ?_)
    refine cf_aload_n C dX7_partsAs_85 rfl 0 rfl ?_
    refine cf_iconst C dX7_partsAs_86 (v := 1) rfl ?_
    refine cf_callSi C [.int 1] [.ref (adr (vG E) 17 0)] q907 (c_X7_above (vL E) (vG E) 1 _ _  hm) q906 q908 q72 md_X7_above (by omega) (by omega) rfl rfl (Nat.le_of_ble_eq_true rfl) dX7_partsAs_87 (fun v8 S7 hm => ?_)
    refine cf_iload_n C dX7_partsAs_90 rfl 2 rfl ?_
    refine cf_callVi C [.int v8, .int x2] [] okM_17.1 (ocell_7 okM_17.2.1) rfl q1065 q63 (hr_X7_partsAs v8 x2 _ _  hm) q1063 q1066 q72 md_X7_partsAs (by omega) (by omega) rfl rfl (Nat.le_of_ble_eq_true rfl) dX7_partsAs_91 (fun v10 S9 hm => ?_)
    refine cf_istore C (L1 := [(4, .int v10), (0, .ref (adr (vG E) 17 0)), (1, .int x1), (2, .int x2)]) dX7_partsAs_94 (by decide) rfl ?_
    refine cf_aload_n C dX7_partsAs_96 rfl 1 rfl ?_
    refine gf_7_17 C inX7 okM_17 q711 dX7_partsAs_97 ?_
    refine cf_if_eq C (tgt := 107) dX7_partsAs_100 (by decide) hm (fun hm => ?_) (fun hm => ?_)
    · refine cf_iload C dX7_partsAs_107 0 rfl ?_
      refine cf_aload_n C dX7_partsAs_109 rfl 1 rfl ?_
      refine cf_aload_n C dX7_partsAs_110 rfl 1 rfl ?_
      refine cf_callVi C [] [.ref (adr (vG E) 17 0), .int v10] okM_17.1 (ocell_7 okM_17.2.1) rfl q1041 q57 (c_X7_kindNow (vL E) (vG E)  _ _  hm) q1039 q1042 q72 md_X7_kindNow (by omega) (by omega) rfl rfl (Nat.le_of_ble_eq_true rfl) dX7_partsAs_111 (fun v12 S11 hm => ?_)
      refine cf_iconst C dX7_partsAs_114 (v := 1) rfl ?_
      refine cf_callVi C [.int v12, .int 1] [.int v10] okM_17.1 (ocell_7 okM_17.2.1) rfl q1053 q60 (c_X7_asksAs (vL E) (vG E) v12 1 _ _  hm) q1051 q1054 q72 md_X7_asksAs (by omega) (by omega) rfl rfl (Nat.le_of_ble_eq_true rfl) dX7_partsAs_115 (fun v14 S13 hm => ?_)
      refine cf_iadd C dX7_partsAs_118 ?_
      exact hR _ _ _ _ dX7_partsAs_119 hm
    · refine cf_iconst C dX7_partsAs_103 (v := 0) rfl ?_
      refine cf_goto C (tgt := 119) dX7_partsAs_104 (by decide) ?_
      exact hR _ _ _ _ dX7_partsAs_119 hm
  refine cf_lk C dX7_partsAs_1 (by decide +kernel) (off := 119) (show Op.lookupswitch.offset [(0, 27), (1, 78)] 119 _ = _ from ((lv_osw h1_0 rfl).trans ((lv_osw h1_1 rfl).trans rfl))) (tgt := 120) (by decide) ?_
  refine cf_aload_n C dX7_partsAs_120 rfl 0 rfl ?_
  refine cf_iload_n C dX7_partsAs_121 rfl 1 rfl ?_
  refine cf_callSi C [.int x1] [.ref (adr (vG E) 17 0)] q907 (c_X7_above (vL E) (vG E) x1 _ _  hm) q906 q908 q72 md_X7_above (by omega) (by omega) rfl rfl (Nat.le_of_ble_eq_true rfl) dX7_partsAs_122 (fun v16 S15 hm => ?_)
  refine cf_iload_n C dX7_partsAs_125 rfl 2 rfl ?_
  refine cf_callVi C [.int v16, .int x2] [] okM_17.1 (ocell_7 okM_17.2.1) rfl q1065 q63 (hr_X7_partsAs v16 x2 _ _  hm) q1063 q1066 q72 md_X7_partsAs (by omega) (by omega) rfl rfl (Nat.le_of_ble_eq_true rfl) dX7_partsAs_126 (fun v18 S17 hm => ?_)
  exact hR _ _ _ _ dX7_partsAs_129 hm
def G_X7_partsAs : Nat → (Int32 → Int32 → St → (Int32 → St → Prop) → Prop)
  | 0 => (fun _ _ _ _ => False)
  | D + 1 => B_X7_partsAs (G_X7_partsAs D)
theorem cg_X7_partsAs (l : Launch) (G : GX) : ∀ D : Nat, (∀ (x1 : Int32) (x2 : Int32) (S : St) (Q : Int32 → St → Prop), (G_X7_partsAs D) x1 x2 S Q → CTi l yX7_partsAs (Cond.code yX7_partsAs cX7_partsAs 5 (some .int) :: AW) { frames := D + 131, cells := 0, slots := 0, locals := 30 * D + 3905 } G enM [.ref (adr G 17 0), .int x1, .int x2] S Q) := by
  intro D
  induction D with
  | zero => exact (fun _ _ _ _ hm => hm.elim)
  | succ D ih => exact (fun x1 x2 S Q  hm => cb_X7_partsAs l G D ih x1 x2 S Q  hm)
def E_X7_partsAs (x1 : Int32) (x2 : Int32) (S : St) (Q : Int32 → St → Prop) : Prop := (G_X7_partsAs 64) x1 x2 S Q
theorem c_X7_partsAs (l : Launch) (G : GX) (x1 : Int32) (x2 : Int32) (S : St) (Q : Int32 → St → Prop)  (hm : E_X7_partsAs x1 x2 S Q) : CTi l yX7_partsAs (Cond.code yX7_partsAs cX7_partsAs 5 (some .int) :: AW) { frames := 195, cells := 0, slots := 0, locals := 5825 } G enM [.ref (adr G 17 0), .int x1, .int x2] S Q := (cg_X7_partsAs l G 64) x1 x2 S Q  hm

def J_X7_voice_95    (Q : Int32 → St → Prop) (t0 : Int32) (S : St) : Prop := if (S.1 17 17) = 0 then (Q t0 S) else (E_X7_error 6 S (fun v15 S14 => Q v15 S14))
set_option maxRecDepth 20000 in
theorem w_J_X7_voice_95 {E : EV} {Q : Int32 → St → Prop}   (C : CX E cX7_voice RX7 6 enM 196 5849)   (hR : RTi E cX7_voice Q) : ∀ (t0 : Int32) (S : St), J_X7_voice_95 Q t0 S → CF E S 95 [(0, .ref (adr (vG E) 17 0))] [.int t0] := by
  intro t0 S hm
  unfold J_X7_voice_95 at hm
  refine cf_istore C (L1 := [(5, .int t0), (0, .ref (adr (vG E) 17 0))]) dX7_voice_95 (by decide) rfl ?_
  refine cf_aload_n C dX7_voice_97 rfl 1 rfl ?_
  refine gf_7_17 C inX7 okM_17 q711 dX7_voice_98 ?_
  refine cf_if_eq C (tgt := 113) dX7_voice_101 (by decide) hm (fun hm => ?_) (fun hm => ?_)
  · refine cf_iload C dX7_voice_113 0 rfl ?_
    exact hR _ _ _ _ dX7_voice_115 hm
  · refine cf_aload_n C dX7_voice_104 rfl 1 rfl ?_
    refine cf_bipush C dX7_voice_105 (v := 6) rfl ?_
    refine cf_callVi C [.int 6] [] okM_17.1 (ocell_7 okM_17.2.1) rfl q771 q19 (c_X7_error (vL E) (vG E) 6 _ _  hm) q769 q772 q72 md_X7_error (Nat.le_of_ble_eq_true rfl) (Nat.le_of_ble_eq_true rfl) rfl rfl (Nat.le_of_ble_eq_true rfl) dX7_voice_107 (fun v15 S14 hm => ?_)
    refine cf_goto C (tgt := 115) dX7_voice_110 (by decide) ?_
    exact hR _ _ _ _ dX7_voice_115 hm
def E_X7_voice (x1 : Int32) (x2 : Int32) (x3 : Int32) (S : St) (Q : Int32 → St → Prop) : Prop := E_X7_isDish x1 S (fun v2 S1 => if v2 = 0 then (E_X7_error 1 S1 (fun v4 S3 => Q v4 S3)) else (E_X7_in x2 0 3 S1 (fun v6 S5 => if v6 = 0 then (E_X7_error 1 S5 (fun v23 S22 => Q v23 S22)) else (nmS (stI S5 17 14 0) (fun S7 => nmS (stI S7 17 16 x1) (fun S8 => nmS (stI S8 17 17 0) (fun S9 => E_X7_kindNow S9 (fun v11 S10 => if x2 = 0 then (E_X7_sighsAs v11 x3 S10 (fun v21 S20 => J_X7_voice_95 Q v21 S20)) else (if x2 = 1 then (E_X7_asksAs v11 x3 S10 (fun v19 S18 => J_X7_voice_95 Q v19 S18)) else (if x2 = 2 then (E_X7_scrapesAs v11 x3 S10 (fun v17 S16 => J_X7_voice_95 Q v17 S16)) else (E_X7_partsAs v11 x3 S10 (fun v13 S12 => J_X7_voice_95 Q v13 S12))))))))))))
set_option maxRecDepth 20000 in
theorem c_X7_voice (l : Launch) (G : GX) (x1 : Int32) (x2 : Int32) (x3 : Int32) (S : St) (Q : Int32 → St → Prop)  (hm : E_X7_voice x1 x2 x3 S Q) : CTi l yX7_voice (Cond.code yX7_voice cX7_voice 6 (some .int) :: AW) { frames := 196, cells := 0, slots := 0, locals := 5849 } G enM [.ref (adr G 17 0), .int x1, .int x2, .int x3] S Q := by
  refine ct_start_i (by decide) enM_nd (Nat.le_of_ble_eq_true rfl) (fun E hG hl C hR => ?_)
  subst hG
  subst hl
  show CF E S 0 [(0, .ref (adr (vG E) 17 0)), (1, .int x1), (2, .int x2), (3, .int x3)] []
  unfold E_X7_voice at hm
  refine cf_aload_n C dX7_voice_0 rfl 0 rfl ?_
  refine cf_iload_n C dX7_voice_1 rfl 1 rfl ?_
  refine cf_callVi C [.int x1] [] okM_17.1 (ocell_7 okM_17.2.1) rfl q848 q33 (c_X7_isDish (vL E) (vG E) x1 _ _  hm) q846 q849 q72 md_X7_isDish (Nat.le_of_ble_eq_true rfl) (Nat.le_of_ble_eq_true rfl) rfl rfl (Nat.le_of_ble_eq_true rfl) dX7_voice_2 (fun v2 S1 hm => ?_)
  refine cf_if_eq C (tgt := 17) dX7_voice_5 (by decide) hm (fun hm => ?_) (fun hm => ?_)
  · refine cf_aload_n C dX7_voice_17 rfl 0 rfl ?_
    refine cf_iconst C dX7_voice_18 (v := 1) rfl ?_
    refine cf_callVi C [.int 1] [] okM_17.1 (ocell_7 okM_17.2.1) rfl q771 q19 (c_X7_error (vL E) (vG E) 1 _ _  hm) q769 q772 q72 md_X7_error (Nat.le_of_ble_eq_true rfl) (Nat.le_of_ble_eq_true rfl) rfl rfl (Nat.le_of_ble_eq_true rfl) dX7_voice_19 (fun v4 S3 hm => ?_)
    exact hR _ _ _ _ dX7_voice_22 hm
  · refine cf_iload_n C dX7_voice_8 rfl 2 rfl ?_
    refine cf_iconst C dX7_voice_9 (v := 0) rfl ?_
    refine cf_iconst C dX7_voice_10 (v := 3) rfl ?_
    refine cf_callSi C [.int x2, .int 0, .int 3] [] q767 (c_X7_in (vL E) (vG E) x2 0 3 _ _  hm) q766 q768 q72 md_X7_in (Nat.le_of_ble_eq_true rfl) (Nat.le_of_ble_eq_true rfl) rfl rfl (Nat.le_of_ble_eq_true rfl) dX7_voice_11 (fun v6 S5 hm => ?_)
    refine cf_if_ne C (tgt := 23) dX7_voice_14 (by decide) hm (fun hm => ?_) (fun hm => ?_)
    · refine cf_aload_n C dX7_voice_23 rfl 0 rfl ?_
      refine cf_iconst C dX7_voice_24 (v := 0) rfl ?_
      refine pf_7_14 C inX7 okM_17 q708 dX7_voice_25 ?_
      refine cf_nmS hm (fun S7 hm => ?_)
      refine cf_aload_n C dX7_voice_28 rfl 0 rfl ?_
      refine cf_iload_n C dX7_voice_29 rfl 1 rfl ?_
      refine pf_7_16 C inX7 okM_17 q710 dX7_voice_30 ?_
      refine cf_nmS hm (fun S8 hm => ?_)
      refine cf_aload_n C dX7_voice_33 rfl 0 rfl ?_
      refine cf_iconst C dX7_voice_34 (v := 0) rfl ?_
      refine pf_7_17 C inX7 (Or.inl rfl) okM_17 q711 dX7_voice_35 ?_
      refine cf_nmS hm (fun S9 hm => ?_)
      refine cf_aload_n C dX7_voice_38 rfl 0 rfl ?_
      refine cf_callVi C [] [] okM_17.1 (ocell_7 okM_17.2.1) rfl q1041 q57 (c_X7_kindNow (vL E) (vG E)  _ _  hm) q1039 q1042 q72 md_X7_kindNow (Nat.le_of_ble_eq_true rfl) (Nat.le_of_ble_eq_true rfl) rfl rfl (Nat.le_of_ble_eq_true rfl) dX7_voice_39 (fun v11 S10 hm => ?_)
      refine cf_istore C (L1 := [(4, .int v11), (0, .ref (adr (vG E) 17 0)), (1, .int x1), (2, .int x2), (3, .int x3)]) dX7_voice_42 (by decide) rfl ?_
      refine cf_iload_n C dX7_voice_44 rfl 3 rfl ?_
      refine cf_if_ne C (tgt := 58) dX7_voice_45 (by decide) hm (fun hm => ?_) (fun hm => ?_)
      · refine cf_iload_n C dX7_voice_58 rfl 3 rfl ?_
        refine cf_iconst C dX7_voice_59 (v := 1) rfl ?_
        refine cf_icmp_ne C (tgt := 73) dX7_voice_60 (by decide) hm (fun hm => ?_) (fun hm => ?_)
        · refine cf_iload_n C dX7_voice_73 rfl 3 rfl ?_
          refine cf_iconst C dX7_voice_74 (v := 2) rfl ?_
          refine cf_icmp_ne C (tgt := 88) dX7_voice_75 (by decide) hm (fun hm => ?_) (fun hm => ?_)
          · refine cf_aload_n C dX7_voice_88 rfl 1 rfl ?_
            refine cf_iload C dX7_voice_89 0 rfl ?_
            refine cf_iload_n C dX7_voice_91 rfl 4 rfl ?_
            refine cf_callVi C [.int v11, .int x3] [] okM_17.1 (ocell_7 okM_17.2.1) rfl q1065 q63 (c_X7_partsAs (vL E) (vG E) v11 x3 _ _  hm) q1063 q1066 q72 md_X7_partsAs (Nat.le_of_ble_eq_true rfl) (Nat.le_of_ble_eq_true rfl) rfl rfl (Nat.le_of_ble_eq_true rfl) dX7_voice_92 (fun v13 S12 hm => ?_)
            refine cf_sub C [1] rfl ?_
            exact w_J_X7_voice_95 C hR v13 _ hm
          · refine cf_aload_n C dX7_voice_78 rfl 1 rfl ?_
            refine cf_iload C dX7_voice_79 0 rfl ?_
            refine cf_iload_n C dX7_voice_81 rfl 4 rfl ?_
            refine cf_callVi C [.int v11, .int x3] [] okM_17.1 (ocell_7 okM_17.2.1) rfl q1061 q62 (c_X7_scrapesAs (vL E) (vG E) v11 x3 _ _  hm) q1059 q1062 q72 md_X7_scrapesAs (Nat.le_of_ble_eq_true rfl) (Nat.le_of_ble_eq_true rfl) rfl rfl (Nat.le_of_ble_eq_true rfl) dX7_voice_82 (fun v17 S16 hm => ?_)
            refine cf_goto C (tgt := 95) dX7_voice_85 (by decide) ?_
            refine cf_sub C [1] rfl ?_
            exact w_J_X7_voice_95 C hR v17 _ hm
        · refine cf_aload_n C dX7_voice_63 rfl 1 rfl ?_
          refine cf_iload C dX7_voice_64 0 rfl ?_
          refine cf_iload_n C dX7_voice_66 rfl 4 rfl ?_
          refine cf_callVi C [.int v11, .int x3] [] okM_17.1 (ocell_7 okM_17.2.1) rfl q1053 q60 (c_X7_asksAs (vL E) (vG E) v11 x3 _ _  hm) q1051 q1054 q72 md_X7_asksAs (Nat.le_of_ble_eq_true rfl) (Nat.le_of_ble_eq_true rfl) rfl rfl (Nat.le_of_ble_eq_true rfl) dX7_voice_67 (fun v19 S18 hm => ?_)
          refine cf_goto C (tgt := 95) dX7_voice_70 (by decide) ?_
          refine cf_sub C [1] rfl ?_
          exact w_J_X7_voice_95 C hR v19 _ hm
      · refine cf_aload_n C dX7_voice_48 rfl 1 rfl ?_
        refine cf_iload C dX7_voice_49 0 rfl ?_
        refine cf_iload_n C dX7_voice_51 rfl 4 rfl ?_
        refine cf_callVi C [.int v11, .int x3] [] okM_17.1 (ocell_7 okM_17.2.1) rfl q1045 q58 (c_X7_sighsAs (vL E) (vG E) v11 x3 _ _  hm) q1043 q1046 q72 md_X7_sighsAs (Nat.le_of_ble_eq_true rfl) (Nat.le_of_ble_eq_true rfl) rfl rfl (Nat.le_of_ble_eq_true rfl) dX7_voice_52 (fun v21 S20 hm => ?_)
        refine cf_goto C (tgt := 95) dX7_voice_55 (by decide) ?_
        refine cf_sub C [1] rfl ?_
        exact w_J_X7_voice_95 C hR v21 _ hm
    · refine cf_aload_n C dX7_voice_17 rfl 0 rfl ?_
      refine cf_iconst C dX7_voice_18 (v := 1) rfl ?_
      refine cf_callVi C [.int 1] [] okM_17.1 (ocell_7 okM_17.2.1) rfl q771 q19 (c_X7_error (vL E) (vG E) 1 _ _  hm) q769 q772 q72 md_X7_error (Nat.le_of_ble_eq_true rfl) (Nat.le_of_ble_eq_true rfl) rfl rfl (Nat.le_of_ble_eq_true rfl) dX7_voice_19 (fun v23 S22 hm => ?_)
      exact hR _ _ _ _ dX7_voice_22 hm

def E_X7_body (x1 : Int32) (S : St) (Q : Int32 → St → Prop) : Prop := E_X7_in x1 0 ((S.1 17 14) - 1) S (fun v2 S1 => if v2 = 0 then (E_X7_error 2 S1 (fun v4 S3 => Q v4 S3)) else (vp_in x1 30 ∧ (Q (S1.2 17 15 x1.toNatClampNeg) S1)))
set_option maxRecDepth 20000 in
theorem c_X7_body (l : Launch) (G : GX) (x1 : Int32) (S : St) (Q : Int32 → St → Prop)  (hm : E_X7_body x1 S Q) : CTi l yX7_body (Cond.code yX7_body cX7_body 2 (some .int) :: AW) { frames := 1, cells := 0, slots := 0, locals := 22 } G enM [.ref (adr G 17 0), .int x1] S Q := by
  refine ct_start_i (by decide) enM_nd (Nat.le_of_ble_eq_true rfl) (fun E hG hl C hR => ?_)
  subst hG
  subst hl
  show CF E S 0 [(0, .ref (adr (vG E) 17 0)), (1, .int x1)] []
  unfold E_X7_body at hm
  refine cf_iload_n C dX7_body_0 rfl 1 rfl ?_
  refine cf_iconst C dX7_body_1 (v := 0) rfl ?_
  refine cf_aload_n C dX7_body_2 rfl 0 rfl ?_
  refine gf_7_14 C inX7 okM_17 q708 dX7_body_3 ?_
  refine cf_iconst C dX7_body_6 (v := 1) rfl ?_
  refine cf_isub C dX7_body_7 ?_
  refine cf_callSi C [.int x1, .int 0, .int ((S.1 17 14) - 1)] [] q767 (c_X7_in (vL E) (vG E) x1 0 ((S.1 17 14) - 1) _ _  hm) q766 q768 q72 md_X7_in (Nat.le_of_ble_eq_true rfl) (Nat.le_of_ble_eq_true rfl) rfl rfl (Nat.le_of_ble_eq_true rfl) dX7_body_8 (fun v2 S1 hm => ?_)
  refine cf_if_eq C (tgt := 23) dX7_body_11 (by decide) hm (fun hm => ?_) (fun hm => ?_)
  · refine cf_aload_n C dX7_body_23 rfl 0 rfl ?_
    refine cf_iconst C dX7_body_24 (v := 2) rfl ?_
    refine cf_callVi C [.int 2] [] okM_17.1 (ocell_7 okM_17.2.1) rfl q771 q19 (c_X7_error (vL E) (vG E) 2 _ _  hm) q769 q772 q72 md_X7_error (Nat.le_of_ble_eq_true rfl) (Nat.le_of_ble_eq_true rfl) rfl rfl (Nat.le_of_ble_eq_true rfl) dX7_body_25 (fun v4 S3 hm => ?_)
    exact hR _ _ _ _ dX7_body_28 hm
  · refine cf_aload_n C dX7_body_14 rfl 0 rfl ?_
    refine gf_7_15 C inX7 okM_17 q709 dX7_body_15 ?_
    refine cf_iload_n C dX7_body_18 rfl 1 rfl ?_
    refine cf_iald C (okA_of 15 okM_17 rfl (by decide) (by decide) (by decide)) dX7_body_19 hm (fun hm => ?_)
    refine cf_goto C (tgt := 28) dX7_body_20 (by decide) ?_
    exact hR _ _ _ _ dX7_body_28 hm

def L_X7_sheet_90    (Q : Int32 → St → Prop) : Nat → Int32 → Int32 → St → Prop
  | 0 => fun _ _ _ => False
  | n + 1 => fun x1 x4 S => if 24 ≤ x4 then (Q 1 S) else (vp_in ((24 * x1) + x4) 96 ∧ (nmS (stR S 17 20 (upd (S.2 17 20) ((24 * x1) + x4).toNatClampNeg 0)) (fun S7 => nmI (x4 + 1) (fun v8 => L_X7_sheet_90 Q n x1 v8 S7))))
set_option maxRecDepth 20000 in
theorem w_L_X7_sheet_90 {E : EV} {Q : Int32 → St → Prop}   (C : CX E cX7_sheet RX7 5 enM 2 42)   (hR : RTi E cX7_sheet Q) : ∀ (n : Nat) (x1 : Int32) (x4 : Int32) (S : St), L_X7_sheet_90 Q n x1 x4 S → CF E S 90 [(0, .ref (adr (vG E) 17 0)), (1, .int x1), (4, .int x4)] [] := by
  intro n
  induction n with
  | zero =>
    intro x1 x4 S hm
    exact hm.elim
  | succ n ih =>
    intro x1 x4 S hm
    unfold L_X7_sheet_90 at hm
    refine cf_iload C dX7_sheet_90 2 rfl ?_
    refine cf_bipush C dX7_sheet_92 (v := 24) rfl ?_
    refine cf_icmp_ge C (tgt := 116) dX7_sheet_94 (by decide) hm (fun hm => ?_) (fun hm => ?_)
    · refine cf_iconst C dX7_sheet_116 (v := 1) rfl ?_
      exact hR _ _ _ _ dX7_sheet_117 hm
    · refine cf_aload_n C dX7_sheet_97 rfl 0 rfl ?_
      refine gf_7_20 C inX7 okM_17 q714 dX7_sheet_98 ?_
      refine cf_bipush C dX7_sheet_101 (v := 24) rfl ?_
      refine cf_iload_n C dX7_sheet_103 rfl 1 rfl ?_
      refine cf_imul C dX7_sheet_104 ?_
      refine cf_iload C dX7_sheet_105 2 rfl ?_
      refine cf_iadd C dX7_sheet_107 ?_
      refine cf_iconst C dX7_sheet_108 (v := 0) rfl ?_
      refine cf_iast C (okA_of 20 okM_17 rfl (by decide) (by decide) (by decide)) dX7_sheet_109 hm (fun hm => ?_)
      refine cf_nmS hm (fun S7 hm => ?_)
      refine cf_iincN C (L1 := fun v8 => [(4, .int v8), (0, .ref (adr (vG E) 17 0)), (1, .int x1)]) dX7_sheet_110 2 rfl rfl (by decide) (fun _ => rfl) hm (fun v8 hm => ?_)
      refine cf_goto C (tgt := 90) dX7_sheet_113 (by decide) ?_
      refine cf_sub C [1, 2, 0] rfl ?_
      exact ih x1 v8 _ hm
def J_X7_sheet_65    (Q : Int32 → St → Prop) (x1 : Int32) (x2 : Int32) (x3 : Int32) (S : St) : Prop := vp_in x1 4 ∧ (nmS (stR S 17 18 (upd (S.2 17 18) x1.toNatClampNeg x2)) (fun S5 => if x2 = 0 then (vp_in x1 4 ∧ (nmS (stR S5 17 19 (upd (S5.2 17 19) x1.toNatClampNeg 0)) (fun S9 => ∃ k, L_X7_sheet_90 Q k x1 0 S9))) else (vp_in x1 4 ∧ (nmS (stR S5 17 19 (upd (S5.2 17 19) x1.toNatClampNeg x3)) (fun S6 => ∃ k, L_X7_sheet_90 Q k x1 0 S6)))))
set_option maxRecDepth 20000 in
theorem w_J_X7_sheet_65 {E : EV} {Q : Int32 → St → Prop}   (C : CX E cX7_sheet RX7 5 enM 2 42)   (hR : RTi E cX7_sheet Q) : ∀ (x1 : Int32) (x2 : Int32) (x3 : Int32) (S : St), J_X7_sheet_65 Q x1 x2 x3 S → CF E S 65 [(0, .ref (adr (vG E) 17 0)), (1, .int x1), (2, .int x2), (3, .int x3)] [] := by
  intro x1 x2 x3 S hm
  unfold J_X7_sheet_65 at hm
  refine cf_aload_n C dX7_sheet_65 rfl 0 rfl ?_
  refine gf_7_18 C inX7 okM_17 q712 dX7_sheet_66 ?_
  refine cf_iload_n C dX7_sheet_69 rfl 1 rfl ?_
  refine cf_iload_n C dX7_sheet_70 rfl 2 rfl ?_
  refine cf_iast C (okA_of 18 okM_17 rfl (by decide) (by decide) (by decide)) dX7_sheet_71 hm (fun hm => ?_)
  refine cf_nmS hm (fun S5 hm => ?_)
  refine cf_aload_n C dX7_sheet_72 rfl 0 rfl ?_
  refine gf_7_19 C inX7 okM_17 q713 dX7_sheet_73 ?_
  refine cf_iload_n C dX7_sheet_76 rfl 1 rfl ?_
  refine cf_iload_n C dX7_sheet_77 rfl 2 rfl ?_
  refine cf_if_ne C (tgt := 85) dX7_sheet_78 (by decide) hm (fun hm => ?_) (fun hm => ?_)
  · refine cf_iload_n C dX7_sheet_85 rfl 3 rfl ?_
    refine cf_iast C (okA_of 19 okM_17 rfl (by decide) (by decide) (by decide)) dX7_sheet_86 hm (fun hm => ?_)
    refine cf_nmS hm (fun S6 hm => ?_)
    refine cf_iconst C dX7_sheet_87 (v := 0) rfl ?_
    refine cf_istore C (L1 := [(4, .int 0), (0, .ref (adr (vG E) 17 0)), (1, .int x1), (2, .int x2), (3, .int x3)]) dX7_sheet_88 (by decide) rfl ?_
    refine cf_sub C [1, 2, 0] rfl ?_
    obtain ⟨k, hm⟩ := hm
    exact w_L_X7_sheet_90 C hR k x1 0 _ hm
  · refine cf_iconst C dX7_sheet_81 (v := 0) rfl ?_
    refine cf_goto C (tgt := 86) dX7_sheet_82 (by decide) ?_
    refine cf_iast C (okA_of 19 okM_17 rfl (by decide) (by decide) (by decide)) dX7_sheet_86 hm (fun hm => ?_)
    refine cf_nmS hm (fun S9 hm => ?_)
    refine cf_iconst C dX7_sheet_87 (v := 0) rfl ?_
    refine cf_istore C (L1 := [(4, .int 0), (0, .ref (adr (vG E) 17 0)), (1, .int x1), (2, .int x2), (3, .int x3)]) dX7_sheet_88 (by decide) rfl ?_
    refine cf_sub C [1, 2, 0] rfl ?_
    obtain ⟨k, hm⟩ := hm
    exact w_L_X7_sheet_90 C hR k x1 0 _ hm
def J_X7_sheet_35    (Q : Int32 → St → Prop) (x1 : Int32) (x2 : Int32) (x3 : Int32) (S : St) : Prop := if x2 = 0 then (if x2 = 0 then (J_X7_sheet_65 Q x1 x2 x3 S) else (if x3 ≤ 24 then (J_X7_sheet_65 Q x1 x2 x3 S) else (E_X7_error 1 S (fun v11 S10 => Q v11 S10)))) else (if 0 ≤ x3 then (if x2 = 0 then (J_X7_sheet_65 Q x1 x2 x3 S) else (if x3 ≤ 24 then (J_X7_sheet_65 Q x1 x2 x3 S) else (E_X7_error 1 S (fun v13 S12 => Q v13 S12)))) else (E_X7_error 3 S (fun v15 S14 => Q v15 S14)))
set_option maxRecDepth 20000 in
theorem w_J_X7_sheet_35 {E : EV} {Q : Int32 → St → Prop}   (C : CX E cX7_sheet RX7 5 enM 2 42)   (hR : RTi E cX7_sheet Q) : ∀ (x1 : Int32) (x2 : Int32) (x3 : Int32) (S : St), J_X7_sheet_35 Q x1 x2 x3 S → CF E S 35 [(0, .ref (adr (vG E) 17 0)), (1, .int x1), (2, .int x2), (3, .int x3)] [] := by
  intro x1 x2 x3 S hm
  unfold J_X7_sheet_35 at hm
  refine cf_iload_n C dX7_sheet_35 rfl 2 rfl ?_
  refine cf_if_eq C (tgt := 49) dX7_sheet_36 (by decide) hm (fun hm => ?_) (fun hm => ?_)
  · refine cf_iload_n C dX7_sheet_49 rfl 2 rfl ?_
    refine cf_if_eq C (tgt := 65) dX7_sheet_50 (by decide) hm (fun hm => ?_) (fun hm => ?_)
    · exact w_J_X7_sheet_65 C hR x1 x2 x3 _ hm
    · refine cf_iload_n C dX7_sheet_53 rfl 3 rfl ?_
      refine cf_bipush C dX7_sheet_54 (v := 24) rfl ?_
      refine cf_icmp_le C (tgt := 65) dX7_sheet_56 (by decide) hm (fun hm => ?_) (fun hm => ?_)
      · exact w_J_X7_sheet_65 C hR x1 x2 x3 _ hm
      · refine cf_aload_n C dX7_sheet_59 rfl 0 rfl ?_
        refine cf_iconst C dX7_sheet_60 (v := 1) rfl ?_
        refine cf_callVi C [.int 1] [] okM_17.1 (ocell_7 okM_17.2.1) rfl q771 q19 (c_X7_error (vL E) (vG E) 1 _ _  hm) q769 q772 q72 md_X7_error (Nat.le_of_ble_eq_true rfl) (Nat.le_of_ble_eq_true rfl) rfl rfl (Nat.le_of_ble_eq_true rfl) dX7_sheet_61 (fun v11 S10 hm => ?_)
        exact hR _ _ _ _ dX7_sheet_64 hm
  · refine cf_iload_n C dX7_sheet_39 rfl 3 rfl ?_
    refine cf_if_ge C (tgt := 49) dX7_sheet_40 (by decide) hm (fun hm => ?_) (fun hm => ?_)
    · refine cf_iload_n C dX7_sheet_49 rfl 2 rfl ?_
      refine cf_if_eq C (tgt := 65) dX7_sheet_50 (by decide) hm (fun hm => ?_) (fun hm => ?_)
      · exact w_J_X7_sheet_65 C hR x1 x2 x3 _ hm
      · refine cf_iload_n C dX7_sheet_53 rfl 3 rfl ?_
        refine cf_bipush C dX7_sheet_54 (v := 24) rfl ?_
        refine cf_icmp_le C (tgt := 65) dX7_sheet_56 (by decide) hm (fun hm => ?_) (fun hm => ?_)
        · exact w_J_X7_sheet_65 C hR x1 x2 x3 _ hm
        · refine cf_aload_n C dX7_sheet_59 rfl 0 rfl ?_
          refine cf_iconst C dX7_sheet_60 (v := 1) rfl ?_
          refine cf_callVi C [.int 1] [] okM_17.1 (ocell_7 okM_17.2.1) rfl q771 q19 (c_X7_error (vL E) (vG E) 1 _ _  hm) q769 q772 q72 md_X7_error (Nat.le_of_ble_eq_true rfl) (Nat.le_of_ble_eq_true rfl) rfl rfl (Nat.le_of_ble_eq_true rfl) dX7_sheet_61 (fun v13 S12 hm => ?_)
          exact hR _ _ _ _ dX7_sheet_64 hm
    · refine cf_aload_n C dX7_sheet_43 rfl 0 rfl ?_
      refine cf_iconst C dX7_sheet_44 (v := 3) rfl ?_
      refine cf_callVi C [.int 3] [] okM_17.1 (ocell_7 okM_17.2.1) rfl q771 q19 (c_X7_error (vL E) (vG E) 3 _ _  hm) q769 q772 q72 md_X7_error (Nat.le_of_ble_eq_true rfl) (Nat.le_of_ble_eq_true rfl) rfl rfl (Nat.le_of_ble_eq_true rfl) dX7_sheet_45 (fun v15 S14 hm => ?_)
      exact hR _ _ _ _ dX7_sheet_48 hm
def E_X7_sheet (x1 : Int32) (x2 : Int32) (x3 : Int32) (S : St) (Q : Int32 → St → Prop) : Prop := E_X7_isSheet x1 S (fun v2 S1 => if v2 = 0 then (E_X7_error 1 S1 (fun v4 S3 => Q v4 S3)) else (if x2 = 0 then (J_X7_sheet_35 Q x1 x2 x3 S1) else (if x2 = 8 then (J_X7_sheet_35 Q x1 x2 x3 S1) else (if x2 = 16 then (J_X7_sheet_35 Q x1 x2 x3 S1) else (if x2 = 32 then (J_X7_sheet_35 Q x1 x2 x3 S1) else (E_X7_error 1 S1 (fun v17 S16 => Q v17 S16)))))))
set_option maxRecDepth 20000 in
theorem c_X7_sheet (l : Launch) (G : GX) (x1 : Int32) (x2 : Int32) (x3 : Int32) (S : St) (Q : Int32 → St → Prop)  (hm : E_X7_sheet x1 x2 x3 S Q) : CTi l yX7_sheet (Cond.code yX7_sheet cX7_sheet 5 (some .int) :: AW) { frames := 2, cells := 0, slots := 0, locals := 42 } G enM [.ref (adr G 17 0), .int x1, .int x2, .int x3] S Q := by
  refine ct_start_i (by decide) enM_nd (Nat.le_of_ble_eq_true rfl) (fun E hG hl C hR => ?_)
  subst hG
  subst hl
  show CF E S 0 [(0, .ref (adr (vG E) 17 0)), (1, .int x1), (2, .int x2), (3, .int x3)] []
  unfold E_X7_sheet at hm
  refine cf_iload_n C dX7_sheet_0 rfl 1 rfl ?_
  refine cf_callSi C [.int x1] [] q1029 (c_X7_isSheet (vL E) (vG E) x1 _ _  hm) q1028 q1030 q72 md_X7_isSheet (Nat.le_of_ble_eq_true rfl) (Nat.le_of_ble_eq_true rfl) rfl rfl (Nat.le_of_ble_eq_true rfl) dX7_sheet_1 (fun v2 S1 hm => ?_)
  refine cf_if_eq C (tgt := 29) dX7_sheet_4 (by decide) hm (fun hm => ?_) (fun hm => ?_)
  · refine cf_aload_n C dX7_sheet_29 rfl 0 rfl ?_
    refine cf_iconst C dX7_sheet_30 (v := 1) rfl ?_
    refine cf_callVi C [.int 1] [] okM_17.1 (ocell_7 okM_17.2.1) rfl q771 q19 (c_X7_error (vL E) (vG E) 1 _ _  hm) q769 q772 q72 md_X7_error (Nat.le_of_ble_eq_true rfl) (Nat.le_of_ble_eq_true rfl) rfl rfl (Nat.le_of_ble_eq_true rfl) dX7_sheet_31 (fun v4 S3 hm => ?_)
    exact hR _ _ _ _ dX7_sheet_34 hm
  · refine cf_iload_n C dX7_sheet_7 rfl 2 rfl ?_
    refine cf_if_eq C (tgt := 35) dX7_sheet_8 (by decide) hm (fun hm => ?_) (fun hm => ?_)
    · exact w_J_X7_sheet_35 C hR x1 x2 x3 _ hm
    · refine cf_iload_n C dX7_sheet_11 rfl 2 rfl ?_
      refine cf_bipush C dX7_sheet_12 (v := 8) rfl ?_
      refine cf_icmp_eq C (tgt := 35) dX7_sheet_14 (by decide) hm (fun hm => ?_) (fun hm => ?_)
      · exact w_J_X7_sheet_35 C hR x1 x2 x3 _ hm
      · refine cf_iload_n C dX7_sheet_17 rfl 2 rfl ?_
        refine cf_bipush C dX7_sheet_18 (v := 16) rfl ?_
        refine cf_icmp_eq C (tgt := 35) dX7_sheet_20 (by decide) hm (fun hm => ?_) (fun hm => ?_)
        · exact w_J_X7_sheet_35 C hR x1 x2 x3 _ hm
        · refine cf_iload_n C dX7_sheet_23 rfl 2 rfl ?_
          refine cf_bipush C dX7_sheet_24 (v := 32) rfl ?_
          refine cf_icmp_eq C (tgt := 35) dX7_sheet_26 (by decide) hm (fun hm => ?_) (fun hm => ?_)
          · exact w_J_X7_sheet_35 C hR x1 x2 x3 _ hm
          · refine cf_aload_n C dX7_sheet_29 rfl 0 rfl ?_
            refine cf_iconst C dX7_sheet_30 (v := 1) rfl ?_
            refine cf_callVi C [.int 1] [] okM_17.1 (ocell_7 okM_17.2.1) rfl q771 q19 (c_X7_error (vL E) (vG E) 1 _ _  hm) q769 q772 q72 md_X7_error (Nat.le_of_ble_eq_true rfl) (Nat.le_of_ble_eq_true rfl) rfl rfl (Nat.le_of_ble_eq_true rfl) dX7_sheet_31 (fun v17 S16 hm => ?_)
            exact hR _ _ _ _ dX7_sheet_34 hm

def E_X7_put (x1 : Int32) (x2 : Int32) (x3 : Int32) (S : St) (Q : Int32 → St → Prop) : Prop := E_X7_isSheet x1 S (fun v2 S1 => if v2 = 0 then (E_X7_error 1 S1 (fun v12 S11 => Q v12 S11)) else (vp_in x1 4 ∧ (if (S1.2 17 18 x1.toNatClampNeg) = 0 then (E_X7_error 2 S1 (fun v10 S9 => Q v10 S9)) else (vp_in x1 4 ∧ (E_X7_in x2 0 ((S1.2 17 19 x1.toNatClampNeg) - 1) S1 (fun v4 S3 => if v4 = 0 then (E_X7_error 1 S3 (fun v8 S7 => Q v8 S7)) else (vp_in x1 4 ∧ (nmI (32 - (S3.2 17 18 x1.toNatClampNeg)) (fun v5 => vp_in ((24 * x1) + x2) 96 ∧ (nmS (stR S3 17 20 (upd (S3.2 17 20) ((24 * x1) + x2).toNatClampNeg ((x3 <<< (v5 &&& 31)) >>> (v5 &&& 31)))) (fun S6 => Q 1 S6)))))))))))
set_option maxRecDepth 20000 in
theorem c_X7_put (l : Launch) (G : GX) (x1 : Int32) (x2 : Int32) (x3 : Int32) (S : St) (Q : Int32 → St → Prop)  (hm : E_X7_put x1 x2 x3 S Q) : CTi l yX7_put (Cond.code yX7_put cX7_put 5 (some .int) :: AW) { frames := 2, cells := 0, slots := 0, locals := 42 } G enM [.ref (adr G 17 0), .int x1, .int x2, .int x3] S Q := by
  refine ct_start_i (by decide) enM_nd (Nat.le_of_ble_eq_true rfl) (fun E hG hl C hR => ?_)
  subst hG
  subst hl
  show CF E S 0 [(0, .ref (adr (vG E) 17 0)), (1, .int x1), (2, .int x2), (3, .int x3)] []
  unfold E_X7_put at hm
  refine cf_iload_n C dX7_put_0 rfl 1 rfl ?_
  refine cf_callSi C [.int x1] [] q1029 (c_X7_isSheet (vL E) (vG E) x1 _ _  hm) q1028 q1030 q72 md_X7_isSheet (Nat.le_of_ble_eq_true rfl) (Nat.le_of_ble_eq_true rfl) rfl rfl (Nat.le_of_ble_eq_true rfl) dX7_put_1 (fun v2 S1 hm => ?_)
  refine cf_if_ne C (tgt := 13) dX7_put_4 (by decide) hm (fun hm => ?_) (fun hm => ?_)
  · refine cf_aload_n C dX7_put_13 rfl 0 rfl ?_
    refine gf_7_18 C inX7 okM_17 q712 dX7_put_14 ?_
    refine cf_iload_n C dX7_put_17 rfl 1 rfl ?_
    refine cf_iald C (okA_of 18 okM_17 rfl (by decide) (by decide) (by decide)) dX7_put_18 hm (fun hm => ?_)
    refine cf_if_ne C (tgt := 28) dX7_put_19 (by decide) hm (fun hm => ?_) (fun hm => ?_)
    · refine cf_iload_n C dX7_put_28 rfl 2 rfl ?_
      refine cf_iconst C dX7_put_29 (v := 0) rfl ?_
      refine cf_aload_n C dX7_put_30 rfl 0 rfl ?_
      refine gf_7_19 C inX7 okM_17 q713 dX7_put_31 ?_
      refine cf_iload_n C dX7_put_34 rfl 1 rfl ?_
      refine cf_iald C (okA_of 19 okM_17 rfl (by decide) (by decide) (by decide)) dX7_put_35 hm (fun hm => ?_)
      refine cf_iconst C dX7_put_36 (v := 1) rfl ?_
      refine cf_isub C dX7_put_37 ?_
      refine cf_callSi C [.int x2, .int 0, .int ((S1.2 17 19 x1.toNatClampNeg) - 1)] [] q767 (c_X7_in (vL E) (vG E) x2 0 ((S1.2 17 19 x1.toNatClampNeg) - 1) _ _  hm) q766 q768 q72 md_X7_in (Nat.le_of_ble_eq_true rfl) (Nat.le_of_ble_eq_true rfl) rfl rfl (Nat.le_of_ble_eq_true rfl) dX7_put_38 (fun v4 S3 hm => ?_)
      refine cf_if_ne C (tgt := 50) dX7_put_41 (by decide) hm (fun hm => ?_) (fun hm => ?_)
      · refine cf_bipush C dX7_put_50 (v := 32) rfl ?_
        refine cf_aload_n C dX7_put_52 rfl 0 rfl ?_
        refine gf_7_18 C inX7 okM_17 q712 dX7_put_53 ?_
        refine cf_iload_n C dX7_put_56 rfl 1 rfl ?_
        refine cf_iald C (okA_of 18 okM_17 rfl (by decide) (by decide) (by decide)) dX7_put_57 hm (fun hm => ?_)
        refine cf_isub C dX7_put_58 ?_
        refine cf_nmI hm (fun v5 hm => ?_)
        refine cf_istore C (L1 := [(4, .int v5), (0, .ref (adr (vG E) 17 0)), (1, .int x1), (2, .int x2), (3, .int x3)]) dX7_put_59 (by decide) rfl ?_
        refine cf_aload_n C dX7_put_61 rfl 1 rfl ?_
        refine gf_7_20 C inX7 okM_17 q714 dX7_put_62 ?_
        refine cf_bipush C dX7_put_65 (v := 24) rfl ?_
        refine cf_iload_n C dX7_put_67 rfl 2 rfl ?_
        refine cf_imul C dX7_put_68 ?_
        refine cf_iload_n C dX7_put_69 rfl 3 rfl ?_
        refine cf_iadd C dX7_put_70 ?_
        refine cf_iload_n C dX7_put_71 rfl 4 rfl ?_
        refine cf_iload C dX7_put_72 0 rfl ?_
        refine cf_ishl C dX7_put_74 ?_
        refine cf_iload C dX7_put_75 0 rfl ?_
        refine cf_ishr C dX7_put_77 ?_
        refine cf_iast C (okA_of 20 okM_17 rfl (by decide) (by decide) (by decide)) dX7_put_78 hm (fun hm => ?_)
        refine cf_nmS hm (fun S6 hm => ?_)
        refine cf_iconst C dX7_put_79 (v := 1) rfl ?_
        exact hR _ _ _ _ dX7_put_80 hm
      · refine cf_aload_n C dX7_put_44 rfl 0 rfl ?_
        refine cf_iconst C dX7_put_45 (v := 1) rfl ?_
        refine cf_callVi C [.int 1] [] okM_17.1 (ocell_7 okM_17.2.1) rfl q771 q19 (c_X7_error (vL E) (vG E) 1 _ _  hm) q769 q772 q72 md_X7_error (Nat.le_of_ble_eq_true rfl) (Nat.le_of_ble_eq_true rfl) rfl rfl (Nat.le_of_ble_eq_true rfl) dX7_put_46 (fun v8 S7 hm => ?_)
        exact hR _ _ _ _ dX7_put_49 hm
    · refine cf_aload_n C dX7_put_22 rfl 0 rfl ?_
      refine cf_iconst C dX7_put_23 (v := 2) rfl ?_
      refine cf_callVi C [.int 2] [] okM_17.1 (ocell_7 okM_17.2.1) rfl q771 q19 (c_X7_error (vL E) (vG E) 2 _ _  hm) q769 q772 q72 md_X7_error (Nat.le_of_ble_eq_true rfl) (Nat.le_of_ble_eq_true rfl) rfl rfl (Nat.le_of_ble_eq_true rfl) dX7_put_24 (fun v10 S9 hm => ?_)
      exact hR _ _ _ _ dX7_put_27 hm
  · refine cf_aload_n C dX7_put_7 rfl 0 rfl ?_
    refine cf_iconst C dX7_put_8 (v := 1) rfl ?_
    refine cf_callVi C [.int 1] [] okM_17.1 (ocell_7 okM_17.2.1) rfl q771 q19 (c_X7_error (vL E) (vG E) 1 _ _  hm) q769 q772 q72 md_X7_error (Nat.le_of_ble_eq_true rfl) (Nat.le_of_ble_eq_true rfl) rfl rfl (Nat.le_of_ble_eq_true rfl) dX7_put_9 (fun v12 S11 hm => ?_)
    exact hR _ _ _ _ dX7_put_12 hm
