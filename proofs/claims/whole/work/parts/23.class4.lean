def L_X6_tellsSizes_2 (p1 : Nat)   (Q : Int32 → St → Prop) : Nat → Int32 → St → Prop
  | 0 => fun _ _ => False
  | n + 1 => fun x2 S => if (S.1 p1 1) ≤ x2 then (Q 1 S) else (E_X4_has 5 x2 S (fun v2 S1 => if v2 = 0 then (Q 0 S1) else (vp_in x2 24 ∧ (vp_in x2 9 ∧ (if (S1.2 p1 2 x2.toNatClampNeg) = (S1.2 5 7 x2.toNatClampNeg) then (nmI (x2 + 1) (fun v3 => L_X6_tellsSizes_2 p1 Q n v3 S1)) else (Q 0 S1))))))
set_option maxRecDepth 20000 in
theorem w_L_X6_tellsSizes_2 {E : EV} {Q : Int32 → St → Prop} {p1 : Nat}  (C : CX E cX6_tellsSizes RX6 3 enC 1 21) (h1 : okO enC p1 3)  (hR : RTz E cX6_tellsSizes Q) : ∀ (n : Nat) (x2 : Int32) (S : St), L_X6_tellsSizes_2 p1 Q n x2 S → CF E S 2 [(0, .ref (adr (vG E) 0 0)), (1, .ref (adr (vG E) p1 0)), (2, .int x2)] [] := by
  intro n
  induction n with
  | zero =>
    intro x2 S hm
    exact hm.elim
  | succ n ih =>
    intro x2 S hm
    unfold L_X6_tellsSizes_2 at hm
    refine cf_iload_n C dX6_tellsSizes_2 rfl 2 rfl ?_
    refine cf_aload_n C dX6_tellsSizes_3 rfl 1 rfl ?_
    refine gf_3_1 C inX3 h1 q266 dX6_tellsSizes_4 ?_
    refine cf_icmp_ge C (tgt := 47) dX6_tellsSizes_7 (by decide) hm (fun hm => ?_) (fun hm => ?_)
    · refine cf_iconst C dX6_tellsSizes_47 (v := 1) rfl ?_
      exact hR _ _ _ _ dX6_tellsSizes_48 (Or.inr rfl) hm
    · refine cf_aload_n C dX6_tellsSizes_10 rfl 0 rfl ?_
      refine gf_6_3 C inX6 okC_0 q279 dX6_tellsSizes_11 ?_
      refine cf_iload_n C dX6_tellsSizes_14 rfl 2 rfl ?_
      refine cf_callVi C [.int x2] [] okC_5.1 (ocell_4 okC_5.2.1) rfl q328 q329 (c_X4_has (vL E) (vG E) 5 x2 _ _ okC_5 hm) q327 q330 q68 md_X4_has (Nat.le_of_ble_eq_true rfl) (Nat.le_of_ble_eq_true rfl) rfl rfl (Nat.le_of_ble_eq_true rfl) dX6_tellsSizes_15 (fun v2 S1 hm => ?_)
      refine cf_if_eq C (tgt := 39) dX6_tellsSizes_18 (by decide) hm (fun hm => ?_) (fun hm => ?_)
      · refine cf_iconst C dX6_tellsSizes_39 (v := 0) rfl ?_
        exact hR _ _ _ _ dX6_tellsSizes_40 (Or.inl rfl) hm
      · refine cf_aload_n C dX6_tellsSizes_21 rfl 1 rfl ?_
        refine gf_3_2 C inX3 h1 q268 dX6_tellsSizes_22 ?_
        refine cf_iload_n C dX6_tellsSizes_25 rfl 2 rfl ?_
        refine cf_iald C (okA_of 2 h1 rfl (by decide) (by decide) (by decide)) dX6_tellsSizes_26 hm (fun hm => ?_)
        refine cf_aload_n C dX6_tellsSizes_27 rfl 0 rfl ?_
        refine gf_6_3 C inX6 okC_0 q279 dX6_tellsSizes_28 ?_
        refine gf_4_7 C inX4 okC_5 q136 dX6_tellsSizes_31 ?_
        refine cf_iload_n C dX6_tellsSizes_34 rfl 2 rfl ?_
        refine cf_iald C (okA_of 7 okC_5 rfl (by decide) (by decide) (by decide)) dX6_tellsSizes_35 hm (fun hm => ?_)
        refine cf_icmp_eq C (tgt := 41) dX6_tellsSizes_36 (by decide) hm (fun hm => ?_) (fun hm => ?_)
        · refine cf_iincN C (L1 := fun v3 => [(2, .int v3), (0, .ref (adr (vG E) 0 0)), (1, .ref (adr (vG E) p1 0))]) dX6_tellsSizes_41 2 rfl rfl (by decide) (fun _ => rfl) hm (fun v3 hm => ?_)
          refine cf_goto C (tgt := 2) dX6_tellsSizes_44 (by decide) ?_
          refine cf_sub C [1, 2, 0] rfl ?_
          exact ih v3 _ hm
        · refine cf_iconst C dX6_tellsSizes_39 (v := 0) rfl ?_
          exact hR _ _ _ _ dX6_tellsSizes_40 (Or.inl rfl) hm
def E_X6_tellsSizes (p1 : Nat) (S : St) (Q : Int32 → St → Prop) : Prop := ∃ k, L_X6_tellsSizes_2 p1 Q k 0 S
set_option maxRecDepth 20000 in
theorem c_X6_tellsSizes (l : Launch) (G : GX) (p1 : Nat) (S : St) (Q : Int32 → St → Prop) (h1 : okO enC p1 3) (hm : E_X6_tellsSizes p1 S Q) : CTi l yX6_tellsSizes (Cond.code yX6_tellsSizes cX6_tellsSizes 3 (some .boolean) :: AW) { frames := 1, cells := 0, slots := 0, locals := 21 } G enC [.ref (adr G 0 0), .ref (adr G p1 0)] S Q := by
  refine ct_start_z (by decide) enC_nd (Nat.le_of_ble_eq_true rfl) (fun E hG hl C hR => ?_)
  subst hG
  subst hl
  show CF E S 0 [(0, .ref (adr (vG E) 0 0)), (1, .ref (adr (vG E) p1 0))] []
  unfold E_X6_tellsSizes at hm
  refine cf_iconst C dX6_tellsSizes_0 (v := 0) rfl ?_
  refine cf_istore_n C (L1 := [(2, .int 0), (0, .ref (adr (vG E) 0 0)), (1, .ref (adr (vG E) p1 0))]) dX6_tellsSizes_1 rfl (by decide) rfl ?_
  refine cf_sub C [1, 2, 0] rfl ?_
  obtain ⟨k, hm⟩ := hm
  exact w_L_X6_tellsSizes_2 C h1 hR k 0 _ hm

def L_X6_fits_48    (Q : Int32 → St → Prop) : Nat → Int32 → Int32 → Int32 → Int32 → Int32 → St → Prop
  | 0 => fun _ _ _ _ _ _ => False
  | n + 1 => fun x1 x2 x3 x4 x5 S => if 99 < x5 then (if x2 = 0 then (Q x3 S) else (if 0 ≤ x4 then (Q x4 S) else (E_X6_wrong 2 S (fun v11 S10 => Q v11 S10)))) else (E_X4_takeFrom 5 3 S (fun S12 => E_X4_dine 5 x5 S12 (fun v14 S13 => vp_in x1 4 ∧ (E_X6_tellsSizes (13 + x1.toNatClampNeg) S13 (fun v17 S16 => if v17 = 0 then (nmI (x5 + 1) (fun v18 => L_X6_fits_48 Q n x1 x2 x3 x4 v18 S16)) else (nmI (x3 + 1) (fun v19 => if 0 ≤ x4 then (nmI (x5 + 1) (fun v20 => L_X6_fits_48 Q n x1 x2 v19 x4 v20 S16)) else (nmI (x5 + 1) (fun v21 => L_X6_fits_48 Q n x1 x2 v19 x5 v21 S16)))))))))
set_option maxRecDepth 20000 in
theorem w_L_X6_fits_48 {E : EV} {Q : Int32 → St → Prop}   (C : CX E cX6_fits RX6 6 enC 6 140)   (hR : RTi E cX6_fits Q) : ∀ (n : Nat) (x1 : Int32) (x2 : Int32) (x3 : Int32) (x4 : Int32) (x5 : Int32) (S : St), L_X6_fits_48 Q n x1 x2 x3 x4 x5 S → CF E S 48 [(0, .ref (adr (vG E) 0 0)), (1, .int x1), (2, .int x2), (3, .int x3), (4, .int x4), (5, .int x5)] [] := by
  intro n
  induction n with
  | zero =>
    intro x1 x2 x3 x4 x5 S hm
    exact hm.elim
  | succ n ih =>
    intro x1 x2 x3 x4 x5 S hm
    unfold L_X6_fits_48 at hm
    refine cf_iload C dX6_fits_48 5 rfl ?_
    refine cf_bipush C dX6_fits_50 (v := 99) rfl ?_
    refine cf_icmp_gt C (tgt := 112) dX6_fits_52 (by decide) hm (fun hm => ?_) (fun hm => ?_)
    · refine cf_iload_n C dX6_fits_112 rfl 2 rfl ?_
      refine cf_if_ne C (tgt := 118) dX6_fits_113 (by decide) hm (fun hm => ?_) (fun hm => ?_)
      · refine cf_iload C dX6_fits_118 4 rfl ?_
        refine cf_if_ge C (tgt := 131) dX6_fits_120 (by decide) hm (fun hm => ?_) (fun hm => ?_)
        · refine cf_iload C dX6_fits_131 4 rfl ?_
          exact hR _ _ _ _ dX6_fits_133 hm
        · refine cf_aload_n C dX6_fits_123 rfl 0 rfl ?_
          refine cf_iconst C dX6_fits_124 (v := 2) rfl ?_
          refine cf_callVi C [.int 2] [] okC_0.1 (ocell_6 okC_0.2.1) rfl q316 q0 (c_X6_wrong (vL E) (vG E) 2 _ _  hm) q314 q317 q65 md_X6_wrong (Nat.le_of_ble_eq_true rfl) (Nat.le_of_ble_eq_true rfl) rfl rfl (Nat.le_of_ble_eq_true rfl) dX6_fits_125 (fun v11 S10 hm => ?_)
          refine cf_goto C (tgt := 133) dX6_fits_128 (by decide) ?_
          exact hR _ _ _ _ dX6_fits_133 hm
      · refine cf_iload_n C dX6_fits_116 rfl 3 rfl ?_
        exact hR _ _ _ _ dX6_fits_117 hm
    · refine cf_aload_n C dX6_fits_55 rfl 0 rfl ?_
      refine gf_6_3 C inX6 okC_0 q279 dX6_fits_56 ?_
      refine cf_aload_n C dX6_fits_59 rfl 0 rfl ?_
      refine gf_6_2 C inX6 okC_0 q278 dX6_fits_60 ?_
      refine cf_callVv C [.ref (adr (vG E) 3 0)] [] okC_5.1 (ocell_4 okC_5.2.1) rfl q535 q536 (c_X4_takeFrom (vL E) (vG E) 5 3 _ _ okC_5 okC_3 hm) q534 q537 q68 md_X4_takeFrom (Nat.le_of_ble_eq_true rfl) (Nat.le_of_ble_eq_true rfl) rfl rfl (Nat.le_of_ble_eq_true rfl) dX6_fits_63 (fun S12 hm => ?_)
      refine cf_aload_n C dX6_fits_66 rfl 0 rfl ?_
      refine gf_6_3 C inX6 okC_0 q279 dX6_fits_67 ?_
      refine cf_iload C dX6_fits_70 5 rfl ?_
      refine cf_callVi C [.int x5] [] okC_5.1 (ocell_4 okC_5.2.1) rfl q482 q483 (c_X4_dine (vL E) (vG E) 5 x5 _ _ okC_5 hm) q481 q484 q68 md_X4_dine (Nat.le_of_ble_eq_true rfl) (Nat.le_of_ble_eq_true rfl) rfl rfl (Nat.le_of_ble_eq_true rfl) dX6_fits_72 (fun v14 S13 hm => ?_)
      refine cf_pop C dX6_fits_75 rfl ?_
      refine cf_aload_n C dX6_fits_76 rfl 0 rfl ?_
      refine cf_aload_n C dX6_fits_77 rfl 0 rfl ?_
      refine gf_6_6 C inX6 okC_0 q282 dX6_fits_78 ?_
      refine cf_iload_n C dX6_fits_81 rfl 1 rfl ?_
      have hs15 := vp_lt hm.1
      refine cf_aald C dX6_fits_82 hm (fun hm => ?_)
      refine cf_callVi C [.ref (adr (vG E) (13 + x1.toNatClampNeg) 0)] [] okC_0.1 (ocell_6 okC_0.2.1) rfl q588 q14 (c_X6_tellsSizes (vL E) (vG E) (13 + x1.toNatClampNeg) _ _ (okC_sheet hs15) hm) q586 q589 q65 md_X6_tellsSizes (Nat.le_of_ble_eq_true rfl) (Nat.le_of_ble_eq_true rfl) rfl rfl (Nat.le_of_ble_eq_true rfl) dX6_fits_83 (fun v17 S16 hm => ?_)
      refine cf_if_eq C (tgt := 106) dX6_fits_86 (by decide) hm (fun hm => ?_) (fun hm => ?_)
      · refine cf_iincN C (L1 := fun v18 => [(5, .int v18), (0, .ref (adr (vG E) 0 0)), (1, .int x1), (2, .int x2), (3, .int x3), (4, .int x4)]) dX6_fits_106 5 rfl rfl (by decide) (fun _ => rfl) hm (fun v18 hm => ?_)
        refine cf_goto C (tgt := 48) dX6_fits_109 (by decide) ?_
        refine cf_sub C [1, 2, 3, 4, 5, 0] rfl ?_
        exact ih x1 x2 x3 x4 v18 _ hm
      · refine cf_iincN C (L1 := fun v19 => [(3, .int v19), (0, .ref (adr (vG E) 0 0)), (1, .int x1), (2, .int x2), (4, .int x4), (5, .int x5)]) dX6_fits_89 3 rfl rfl (by decide) (fun _ => rfl) hm (fun v19 hm => ?_)
        refine cf_iload C dX6_fits_92 4 rfl ?_
        refine cf_if_ge C (tgt := 102) dX6_fits_94 (by decide) hm (fun hm => ?_) (fun hm => ?_)
        · refine cf_iload C dX6_fits_102 4 rfl ?_
          refine cf_istore C (L1 := [(4, .int x4), (3, .int v19), (0, .ref (adr (vG E) 0 0)), (1, .int x1), (2, .int x2), (5, .int x5)]) dX6_fits_104 (by decide) rfl ?_
          refine cf_iincN C (L1 := fun v20 => [(5, .int v20), (4, .int x4), (3, .int v19), (0, .ref (adr (vG E) 0 0)), (1, .int x1), (2, .int x2)]) dX6_fits_106 5 rfl rfl (by decide) (fun _ => rfl) hm (fun v20 hm => ?_)
          refine cf_goto C (tgt := 48) dX6_fits_109 (by decide) ?_
          refine cf_sub C [3, 4, 5, 2, 1, 0] rfl ?_
          exact ih x1 x2 v19 x4 v20 _ hm
        · refine cf_iload C dX6_fits_97 5 rfl ?_
          refine cf_goto C (tgt := 104) dX6_fits_99 (by decide) ?_
          refine cf_istore C (L1 := [(4, .int x5), (3, .int v19), (0, .ref (adr (vG E) 0 0)), (1, .int x1), (2, .int x2), (5, .int x5)]) dX6_fits_104 (by decide) rfl ?_
          refine cf_iincN C (L1 := fun v21 => [(5, .int v21), (4, .int x5), (3, .int v19), (0, .ref (adr (vG E) 0 0)), (1, .int x1), (2, .int x2)]) dX6_fits_106 5 rfl rfl (by decide) (fun _ => rfl) hm (fun v21 hm => ?_)
          refine cf_goto C (tgt := 48) dX6_fits_109 (by decide) ?_
          refine cf_sub C [3, 4, 5, 2, 1, 0] rfl ?_
          exact ih x1 x2 v19 x5 v21 _ hm
def E_X6_fits (x1 : Int32) (x2 : Int32) (S : St) (Q : Int32 → St → Prop) : Prop := E_X6_isSheet x1 S (fun v2 S1 => if v2 = 0 then (E_X6_wrong 1 S1 (fun v4 S3 => Q v4 S3)) else (E_X6_within x2 0 1 S1 (fun v6 S5 => if v6 = 0 then (E_X6_wrong 1 S5 (fun v25 S24 => Q v25 S24)) else (vp_in x1 4 ∧ (E_X3_isMissing (13 + x1.toNatClampNeg) S5 (fun v9 S8 => if v9 = 0 then (∃ k, L_X6_fits_48 Q k x1 x2 0 (-1) 0 S8) else (E_X6_wrong 2 S8 (fun v23 S22 => Q v23 S22))))))))
set_option maxRecDepth 20000 in
theorem c_X6_fits (l : Launch) (G : GX) (x1 : Int32) (x2 : Int32) (S : St) (Q : Int32 → St → Prop)  (hm : E_X6_fits x1 x2 S Q) : CTi l yX6_fits (Cond.code yX6_fits cX6_fits 6 (some .int) :: AW) { frames := 6, cells := 0, slots := 0, locals := 140 } G enC [.ref (adr G 0 0), .int x1, .int x2] S Q := by
  refine ct_start_i (by decide) enC_nd (Nat.le_of_ble_eq_true rfl) (fun E hG hl C hR => ?_)
  subst hG
  subst hl
  show CF E S 0 [(0, .ref (adr (vG E) 0 0)), (1, .int x1), (2, .int x2)] []
  unfold E_X6_fits at hm
  refine cf_iload_n C dX6_fits_0 rfl 1 rfl ?_
  refine cf_callSi C [.int x1] [] q580 (c_X6_isSheet (vL E) (vG E) x1 _ _  hm) q579 q581 q65 md_X6_isSheet (Nat.le_of_ble_eq_true rfl) (Nat.le_of_ble_eq_true rfl) rfl rfl (Nat.le_of_ble_eq_true rfl) dX6_fits_1 (fun v2 S1 hm => ?_)
  refine cf_if_eq C (tgt := 16) dX6_fits_4 (by decide) hm (fun hm => ?_) (fun hm => ?_)
  · refine cf_aload_n C dX6_fits_16 rfl 0 rfl ?_
    refine cf_iconst C dX6_fits_17 (v := 1) rfl ?_
    refine cf_callVi C [.int 1] [] okC_0.1 (ocell_6 okC_0.2.1) rfl q316 q0 (c_X6_wrong (vL E) (vG E) 1 _ _  hm) q314 q317 q65 md_X6_wrong (Nat.le_of_ble_eq_true rfl) (Nat.le_of_ble_eq_true rfl) rfl rfl (Nat.le_of_ble_eq_true rfl) dX6_fits_18 (fun v4 S3 hm => ?_)
    exact hR _ _ _ _ dX6_fits_21 hm
  · refine cf_iload_n C dX6_fits_7 rfl 2 rfl ?_
    refine cf_iconst C dX6_fits_8 (v := 0) rfl ?_
    refine cf_iconst C dX6_fits_9 (v := 1) rfl ?_
    refine cf_callSi C [.int x2, .int 0, .int 1] [] q312 (c_X6_within (vL E) (vG E) x2 0 1 _ _  hm) q311 q313 q65 md_X6_within (Nat.le_of_ble_eq_true rfl) (Nat.le_of_ble_eq_true rfl) rfl rfl (Nat.le_of_ble_eq_true rfl) dX6_fits_10 (fun v6 S5 hm => ?_)
    refine cf_if_ne C (tgt := 22) dX6_fits_13 (by decide) hm (fun hm => ?_) (fun hm => ?_)
    · refine cf_aload_n C dX6_fits_22 rfl 0 rfl ?_
      refine gf_6_6 C inX6 okC_0 q282 dX6_fits_23 ?_
      refine cf_iload_n C dX6_fits_26 rfl 1 rfl ?_
      have hs7 := vp_lt hm.1
      refine cf_aald C dX6_fits_27 hm (fun hm => ?_)
      refine cf_callVi C [] [] (okC_sheet hs7).1 (ocell_3 (okC_sheet hs7).2.1) rfl q583 q584 (c_X3_isMissing (vL E) (vG E) (13 + x1.toNatClampNeg) _ _ (okC_sheet hs7) hm) q582 q585 q71 md_X3_isMissing (Nat.le_of_ble_eq_true rfl) (Nat.le_of_ble_eq_true rfl) rfl rfl (Nat.le_of_ble_eq_true rfl) dX6_fits_28 (fun v9 S8 hm => ?_)
      refine cf_if_eq C (tgt := 40) dX6_fits_31 (by decide) hm (fun hm => ?_) (fun hm => ?_)
      · refine cf_iconst C dX6_fits_40 (v := 0) rfl ?_
        refine cf_istore_n C (L1 := [(3, .int 0), (0, .ref (adr (vG E) 0 0)), (1, .int x1), (2, .int x2)]) dX6_fits_41 rfl (by decide) rfl ?_
        refine cf_iconst C dX6_fits_42 (v := (-1)) rfl ?_
        refine cf_istore C (L1 := [(4, .int ((-1))), (3, .int 0), (0, .ref (adr (vG E) 0 0)), (1, .int x1), (2, .int x2)]) dX6_fits_43 (by decide) rfl ?_
        refine cf_iconst C dX6_fits_45 (v := 0) rfl ?_
        refine cf_istore C (L1 := [(5, .int 0), (4, .int ((-1))), (3, .int 0), (0, .ref (adr (vG E) 0 0)), (1, .int x1), (2, .int x2)]) dX6_fits_46 (by decide) rfl ?_
        refine cf_sub C [3, 4, 5, 2, 1, 0] rfl ?_
        obtain ⟨k, hm⟩ := hm
        exact w_L_X6_fits_48 C hR k x1 x2 0 (-1) 0 _ hm
      · refine cf_aload_n C dX6_fits_34 rfl 0 rfl ?_
        refine cf_iconst C dX6_fits_35 (v := 2) rfl ?_
        refine cf_callVi C [.int 2] [] okC_0.1 (ocell_6 okC_0.2.1) rfl q316 q0 (c_X6_wrong (vL E) (vG E) 2 _ _  hm) q314 q317 q65 md_X6_wrong (Nat.le_of_ble_eq_true rfl) (Nat.le_of_ble_eq_true rfl) rfl rfl (Nat.le_of_ble_eq_true rfl) dX6_fits_36 (fun v23 S22 hm => ?_)
        exact hR _ _ _ _ dX6_fits_39 hm
    · refine cf_aload_n C dX6_fits_16 rfl 0 rfl ?_
      refine cf_iconst C dX6_fits_17 (v := 1) rfl ?_
      refine cf_callVi C [.int 1] [] okC_0.1 (ocell_6 okC_0.2.1) rfl q316 q0 (c_X6_wrong (vL E) (vG E) 1 _ _  hm) q314 q317 q65 md_X6_wrong (Nat.le_of_ble_eq_true rfl) (Nat.le_of_ble_eq_true rfl) rfl rfl (Nat.le_of_ble_eq_true rfl) dX6_fits_18 (fun v25 S24 hm => ?_)
      exact hR _ _ _ _ dX6_fits_21 hm

def L_X5_ownerOf_4    (Q : Int32 → St → Prop) : Nat → Int32 → Int32 → Int32 → St → Prop
  | 0 => fun _ _ _ _ => False
  | n + 1 => fun x0 x2 x3 S => if 7 ≤ x3 then (Q (-1) S) else (if x2 < 0 then (Q (-1) S) else (vp_in ((x2 * 4) + x0) 28 ∧ (if (sBOD ((x2 * 4) + x0).toNatClampNeg) = 0 then (vp_in x2 7 ∧ (nmI (sABV x2.toNatClampNeg) (fun v1 => nmI (x3 + 1) (fun v2 => L_X5_ownerOf_4 Q n x0 v1 v2 S)))) else (Q x2 S))))
set_option maxRecDepth 20000 in
theorem w_L_X5_ownerOf_4 {E : EV} {Q : Int32 → St → Prop}   (C : CX E cX5_ownerOf RX5 4 enC 0 0)   (hR : RTi E cX5_ownerOf Q) : ∀ (n : Nat) (x0 : Int32) (x2 : Int32) (x3 : Int32) (S : St), L_X5_ownerOf_4 Q n x0 x2 x3 S → CF E S 4 [(0, .int x0), (2, .int x2), (3, .int x3)] [] := by
  intro n
  induction n with
  | zero =>
    intro x0 x2 x3 S hm
    exact hm.elim
  | succ n ih =>
    intro x0 x2 x3 S hm
    unfold L_X5_ownerOf_4 at hm
    refine cf_iload_n C dX5_ownerOf_4 rfl 2 rfl ?_
    refine cf_bipush C dX5_ownerOf_5 (v := 7) rfl ?_
    refine cf_icmp_ge C (tgt := 40) dX5_ownerOf_7 (by decide) hm (fun hm => ?_) (fun hm => ?_)
    · refine cf_iconst C dX5_ownerOf_40 (v := (-1)) rfl ?_
      exact hR _ _ _ _ dX5_ownerOf_41 hm
    · refine cf_iload_n C dX5_ownerOf_10 rfl 1 rfl ?_
      refine cf_if_lt C (tgt := 40) dX5_ownerOf_11 (by decide) hm (fun hm => ?_) (fun hm => ?_)
      · refine cf_iconst C dX5_ownerOf_40 (v := (-1)) rfl ?_
        exact hR _ _ _ _ dX5_ownerOf_41 hm
      · refine cf_gsN_BODIES C dX5_ownerOf_14 ?_
        refine cf_iload_n C dX5_ownerOf_17 rfl 1 rfl ?_
        refine cf_iconst C dX5_ownerOf_18 (v := 4) rfl ?_
        refine cf_imul C dX5_ownerOf_19 ?_
        refine cf_iload_n C dX5_ownerOf_20 rfl 0 rfl ?_
        refine cf_iadd C dX5_ownerOf_21 ?_
        refine cf_sl_BODIES C dX5_ownerOf_22 hm (fun hm => ?_)
        refine cf_if_eq C (tgt := 28) dX5_ownerOf_23 (by decide) hm (fun hm => ?_) (fun hm => ?_)
        · refine cf_gsN_ABOVE C dX5_ownerOf_28 ?_
          refine cf_iload_n C dX5_ownerOf_31 rfl 1 rfl ?_
          refine cf_sl_ABOVE C dX5_ownerOf_32 hm (fun hm => ?_)
          refine cf_nmI hm (fun v1 hm => ?_)
          refine cf_istore_n C (L1 := [(2, .int v1), (0, .int x0), (3, .int x3)]) dX5_ownerOf_33 rfl (by decide) rfl ?_
          refine cf_iincN C (L1 := fun v2 => [(3, .int v2), (2, .int v1), (0, .int x0)]) dX5_ownerOf_34 2 rfl rfl (by decide) (fun _ => rfl) hm (fun v2 hm => ?_)
          refine cf_goto C (tgt := 4) dX5_ownerOf_37 (by decide) ?_
          refine cf_sub C [2, 1, 0] rfl ?_
          exact ih x0 v1 v2 _ hm
        · refine cf_iload_n C dX5_ownerOf_26 rfl 1 rfl ?_
          exact hR _ _ _ _ dX5_ownerOf_27 hm
def E_X5_ownerOf (x0 : Int32) (x1 : Int32) (S : St) (Q : Int32 → St → Prop) : Prop := ∃ k, L_X5_ownerOf_4 Q k x0 x1 0 S
set_option maxRecDepth 20000 in
theorem c_X5_ownerOf (l : Launch) (G : GX) (x0 : Int32) (x1 : Int32) (S : St) (Q : Int32 → St → Prop)  (hm : E_X5_ownerOf x0 x1 S Q) : CTi l yX5_ownerOf (Cond.code yX5_ownerOf cX5_ownerOf 4 (some .int) :: AW) { frames := 0, cells := 0, slots := 0, locals := 0 } G enC [.int x0, .int x1] S Q := by
  refine ct_start_i (by decide) enC_nd (Nat.le_of_ble_eq_true rfl) (fun E hG hl C hR => ?_)
  subst hG
  subst hl
  show CF E S 0 [(0, .int x0), (1, .int x1)] []
  unfold E_X5_ownerOf at hm
  refine cf_iload_n C dX5_ownerOf_0 rfl 1 rfl ?_
  refine cf_istore_n C (L1 := [(2, .int x1), (0, .int x0), (1, .int x1)]) dX5_ownerOf_1 rfl (by decide) rfl ?_
  refine cf_iconst C dX5_ownerOf_2 (v := 0) rfl ?_
  refine cf_istore_n C (L1 := [(3, .int 0), (2, .int x1), (0, .int x0), (1, .int x1)]) dX5_ownerOf_3 rfl (by decide) rfl ?_
  refine cf_sub C [2, 1, 0] rfl ?_
  obtain ⟨k, hm⟩ := hm
  exact w_L_X5_ownerOf_4 C hR k x0 x1 0 _ hm

def E_X5_began (x1 : Int32) (S : St) (Q : St → Prop) : Prop := if 30 ≤ (S.1 12 1) then (Q S) else (vp_in (S.1 12 1) 30 ∧ (nmS (stR S 12 0 (upd (S.2 12 0) (S.1 12 1).toNatClampNeg x1)) (fun S1 => nmS (stI S1 12 1 ((S1.1 12 1) + 1)) (fun S2 => Q S2))))
set_option maxRecDepth 20000 in
theorem c_X5_began (l : Launch) (G : GX) (x1 : Int32) (S : St) (Q : St → Prop)  (hm : E_X5_began x1 S Q) : CTv l yX5_began (Cond.code yX5_began cX5_began 2 none :: AW) { frames := 0, cells := 0, slots := 0, locals := 0 } G enC [.ref (adr G 12 0), .int x1] S Q := by
  refine ct_start_v (by decide) enC_nd (Nat.le_of_ble_eq_true rfl) (fun E hG hl C hR => ?_)
  subst hG
  subst hl
  show CF E S 0 [(0, .ref (adr (vG E) 12 0)), (1, .int x1)] []
  unfold E_X5_began at hm
  refine cf_aload_n C dX5_began_0 rfl 0 rfl ?_
  refine gf_5_1 C inX5 okC_12 q236 dX5_began_1 ?_
  refine cf_bipush C dX5_began_4 (v := 30) rfl ?_
  refine cf_icmp_ge C (tgt := 29) dX5_began_6 (by decide) hm (fun hm => ?_) (fun hm => ?_)
  · exact hR _ _ _ dX5_began_29 hm
  · refine cf_aload_n C dX5_began_9 rfl 0 rfl ?_
    refine gf_5_0 C inX5 okC_12 q234 dX5_began_10 ?_
    refine cf_aload_n C dX5_began_13 rfl 0 rfl ?_
    refine gf_5_1 C inX5 okC_12 q236 dX5_began_14 ?_
    refine cf_iload_n C dX5_began_17 rfl 1 rfl ?_
    refine cf_iast C (okA_of 0 okC_12 rfl (by decide) (by decide) (by decide)) dX5_began_18 hm (fun hm => ?_)
    refine cf_nmS hm (fun S1 hm => ?_)
    refine cf_aload_n C dX5_began_19 rfl 0 rfl ?_
    refine cf_dup C dX5_began_20 rfl ?_
    refine gf_5_1 C inX5 okC_12 q236 dX5_began_21 ?_
    refine cf_iconst C dX5_began_24 (v := 1) rfl ?_
    refine cf_iadd C dX5_began_25 ?_
    refine pf_5_1 C inX5 okC_12 q236 dX5_began_26 ?_
    refine cf_nmS hm (fun S2 hm => ?_)
    exact hR _ _ _ dX5_began_29 hm

def E_X5_part (x1 : Int32) (S : St) (Q : Int32 → St → Prop) : Prop := nmI ((S.1 12 5) - (S.1 12 4)) (fun v1 => if v1 = 0 then (nmS (stI S 12 2 1) (fun S3 => if (S3.1 12 2) = 0 then ((¬ v1 = 0) ∧ (Q (x1 / v1) S3)) else (Q 0 S3))) else (nmS (stI S 12 2 0) (fun S2 => if (S2.1 12 2) = 0 then ((¬ v1 = 0) ∧ (Q (x1 / v1) S2)) else (Q 0 S2))))
set_option maxRecDepth 20000 in
theorem c_X5_part (l : Launch) (G : GX) (x1 : Int32) (S : St) (Q : Int32 → St → Prop)  (hm : E_X5_part x1 S Q) : CTi l yX5_part (Cond.code yX5_part cX5_part 3 (some .int) :: AW) { frames := 0, cells := 0, slots := 0, locals := 0 } G enC [.ref (adr G 12 0), .int x1] S Q := by
  refine ct_start_i (by decide) enC_nd (Nat.le_of_ble_eq_true rfl) (fun E hG hl C hR => ?_)
  subst hG
  subst hl
  show CF E S 0 [(0, .ref (adr (vG E) 12 0)), (1, .int x1)] []
  unfold E_X5_part at hm
  refine cf_aload_n C dX5_part_0 rfl 0 rfl ?_
  refine gf_5_5 C inX5 okC_12 q242 dX5_part_1 ?_
  refine cf_aload_n C dX5_part_4 rfl 0 rfl ?_
  refine gf_5_4 C inX5 okC_12 q241 dX5_part_5 ?_
  refine cf_isub C dX5_part_8 ?_
  refine cf_nmI hm (fun v1 hm => ?_)
  refine cf_istore_n C (L1 := [(2, .int v1), (0, .ref (adr (vG E) 12 0)), (1, .int x1)]) dX5_part_9 rfl (by decide) rfl ?_
  refine cf_aload_n C dX5_part_10 rfl 1 rfl ?_
  refine cf_iload_n C dX5_part_11 rfl 0 rfl ?_
  refine cf_if_ne C (tgt := 19) dX5_part_12 (by decide) hm (fun hm => ?_) (fun hm => ?_)
  · refine cf_iconst C dX5_part_19 (v := 0) rfl ?_
    refine pf_5_2 C inX5 (Or.inl rfl) okC_12 q238 dX5_part_20 ?_
    refine cf_nmS hm (fun S2 hm => ?_)
    refine cf_aload_n C dX5_part_23 rfl 1 rfl ?_
    refine gf_5_2 C inX5 okC_12 q238 dX5_part_24 ?_
    refine cf_if_eq C (tgt := 34) dX5_part_27 (by decide) hm (fun hm => ?_) (fun hm => ?_)
    · refine cf_iload_n C dX5_part_34 rfl 2 rfl ?_
      refine cf_iload_n C dX5_part_35 rfl 0 rfl ?_
      refine cf_idiv C dX5_part_36 hm (fun hm => ?_)
      exact hR _ _ _ _ dX5_part_37 hm
    · refine cf_iconst C dX5_part_30 (v := 0) rfl ?_
      refine cf_goto C (tgt := 37) dX5_part_31 (by decide) ?_
      exact hR _ _ _ _ dX5_part_37 hm
  · refine cf_iconst C dX5_part_15 (v := 1) rfl ?_
    refine cf_goto C (tgt := 20) dX5_part_16 (by decide) ?_
    refine pf_5_2 C inX5 (Or.inr rfl) okC_12 q238 dX5_part_20 ?_
    refine cf_nmS hm (fun S3 hm => ?_)
    refine cf_aload_n C dX5_part_23 rfl 1 rfl ?_
    refine gf_5_2 C inX5 okC_12 q238 dX5_part_24 ?_
    refine cf_if_eq C (tgt := 34) dX5_part_27 (by decide) hm (fun hm => ?_) (fun hm => ?_)
    · refine cf_iload_n C dX5_part_34 rfl 2 rfl ?_
      refine cf_iload_n C dX5_part_35 rfl 0 rfl ?_
      refine cf_idiv C dX5_part_36 hm (fun hm => ?_)
      exact hR _ _ _ _ dX5_part_37 hm
    · refine cf_iconst C dX5_part_30 (v := 0) rfl ?_
      refine cf_goto C (tgt := 37) dX5_part_31 (by decide) ?_
      exact hR _ _ _ _ dX5_part_37 hm

def B_X5_say (r_X5_say : Int32 → Int32 → Int32 → Int32 → St → (Int32 → St → Prop) → Prop) (r_X5_partOfJoint : Int32 → Int32 → St → (Int32 → St → Prop) → Prop) (x1 : Int32) (x2 : Int32) (x3 : Int32) (x4 : Int32) (S : St) (Q : Int32 → St → Prop) : Prop := E_X5_ownerOf x1 x2 S (fun v2 S1 => if v2 < 0 then (Q 0 S1) else (if x4 ≤ 30 then (vp_in ((v2 * 4) + x1) 28 ∧ (nmI (sBOD ((v2 * 4) + x1).toNatClampNeg) (fun v3 => vp_in v2 7 ∧ (nmI (sABV v2.toNatClampNeg) (fun v4 => E_X5_began v3 S1 (fun S5 => if v3 = 10 then (Q (x3 + (S5.1 12 4)) S5) else (if v3 = 11 then (r_X5_say 0 (S5.1 12 3) x3 (x4 + 1) S5 (fun v7 S6 => Q (v7 * 2) S6)) else (if v3 = 12 then (r_X5_say 1 (S5.1 12 3) x3 (x4 + 1) S5 (fun v9 S8 => Q (v9 - (S8.1 12 5)) S8)) else (if v3 = 13 then (E_X5_part x3 S5 (fun v11 S10 => Q v11 S10)) else (if v3 = 20 then (r_X5_say 0 v4 x3 (x4 + 1) S5 (fun v13 S12 => Q (v13 - 4) S12)) else (if v3 = 21 then (r_X5_say 3 v4 x3 (x4 + 1) S5 (fun v15 S14 => r_X5_partOfJoint v15 x4 S14 (fun v17 S16 => Q v17 S16))) else (if v3 = 30 then (r_X5_say 1 v4 x3 (x4 + 1) S5 (fun v19 S18 => Q (0 - v19) S18)) else (if v3 = 40 then (r_X5_say 2 v4 (x3 / 2) (x4 + 1) S5 (fun v21 S20 => Q v21 S20)) else (if v3 = 50 then (r_X5_say 0 v4 x3 (x4 + 1) S5 (fun v23 S22 => Q (v23 * 3) S22)) else (if v3 = 51 then (r_X5_say 2 v4 x3 (x4 + 1) S5 (fun v25 S24 => Q (v25 ^^^ (S24.1 12 4)) S24)) else (if v3 = 60 then (r_X5_say 1 v4 (x3 + 1) (x4 + 1) S5 (fun v27 S26 => Q v27 S26)) else (if v3 = 70 then (Q 9 S5) else (if v3 = 71 then (r_X5_say 1 v4 x3 (x4 + 1) S5 (fun v29 S28 => Q (v29 + (S28.1 12 5)) S28)) else (Q 0 S5))))))))))))))))))) else (Q 0 S1)))
set_option maxRecDepth 20000 in
theorem cb_X5_say (l : Launch) (G : GX) (D : Nat) {r_X5_say : Int32 → Int32 → Int32 → Int32 → St → (Int32 → St → Prop) → Prop} {r_X5_partOfJoint : Int32 → Int32 → St → (Int32 → St → Prop) → Prop} (hr_X5_say : ∀ (x1 : Int32) (x2 : Int32) (x3 : Int32) (x4 : Int32) (S : St) (Q : Int32 → St → Prop), r_X5_say x1 x2 x3 x4 S Q → CTi l yX5_say (Cond.code yX5_say cX5_say 8 (some .int) :: AW) { frames := D + 1, cells := 0, slots := 0, locals := 30 * D + 23 } G enC [.ref (adr G 12 0), .int x1, .int x2, .int x3, .int x4] S Q) (hr_X5_partOfJoint : ∀ (x1 : Int32) (x2 : Int32) (S : St) (Q : Int32 → St → Prop), r_X5_partOfJoint x1 x2 S Q → CTi l yX5_partOfJoint (Cond.code yX5_partOfJoint cX5_partOfJoint 3 (some .int) :: AW) { frames := D + 1, cells := 0, slots := 0, locals := 30 * D + 23 } G enC [.ref (adr G 12 0), .int x1, .int x2] S Q) (x1 : Int32) (x2 : Int32) (x3 : Int32) (x4 : Int32) (S : St) (Q : Int32 → St → Prop)  (hm : B_X5_say r_X5_say r_X5_partOfJoint x1 x2 x3 x4 S Q) : CTi l yX5_say (Cond.code yX5_say cX5_say 8 (some .int) :: AW) { frames := (D + 1 + 1), cells := 0, slots := 0, locals := (30 * (D + 1) + 23) } G enC [.ref (adr G 12 0), .int x1, .int x2, .int x3, .int x4] S Q := by
  refine ct_start_i (by decide) enC_nd (Nat.le_of_ble_eq_true rfl) (fun E hG hl C hR => ?_)
  subst hG
  subst hl
  show CF E S 0 [(0, .ref (adr (vG E) 12 0)), (1, .int x1), (2, .int x2), (3, .int x3), (4, .int x4)] []
  unfold B_X5_say at hm
  refine cf_iload_n C dX5_say_0 rfl 1 rfl ?_
  refine cf_iload_n C dX5_say_1 rfl 2 rfl ?_
  refine cf_callSi C [.int x1, .int x2] [] q603 (c_X5_ownerOf (vL E) (vG E) x1 x2 _ _  hm) q602 q604 q70 md_X5_ownerOf (by omega) (by omega) rfl rfl (Nat.le_of_ble_eq_true rfl) dX5_say_2 (fun v2 S1 hm => ?_)
  refine cf_istore C (L1 := [(5, .int v2), (0, .ref (adr (vG E) 12 0)), (1, .int x1), (2, .int x2), (3, .int x3), (4, .int x4)]) dX5_say_5 (by decide) rfl ?_
  refine cf_iload C dX5_say_7 0 rfl ?_
  refine cf_if_lt C (tgt := 19) dX5_say_9 (by decide) hm (fun hm => ?_) (fun hm => ?_)
  · refine cf_iconst C dX5_say_19 (v := 0) rfl ?_
    exact hR _ _ _ _ dX5_say_20 hm
  · refine cf_iload C dX5_say_12 5 rfl ?_
    refine cf_bipush C dX5_say_14 (v := 30) rfl ?_
    refine cf_icmp_le C (tgt := 21) dX5_say_16 (by decide) hm (fun hm => ?_) (fun hm => ?_)
    · refine cf_gsN_BODIES C dX5_say_21 ?_
      refine cf_iload C dX5_say_24 0 rfl ?_
      refine cf_iconst C dX5_say_26 (v := 4) rfl ?_
      refine cf_imul C dX5_say_27 ?_
      refine cf_iload_n C dX5_say_28 rfl 2 rfl ?_
      refine cf_iadd C dX5_say_29 ?_
      refine cf_sl_BODIES C dX5_say_30 hm (fun hm => ?_)
      refine cf_nmI hm (fun v3 hm => ?_)
      refine cf_istore C (L1 := [(6, .int v3), (5, .int v2), (0, .ref (adr (vG E) 12 0)), (1, .int x1), (2, .int x2), (3, .int x3), (4, .int x4)]) dX5_say_31 (by decide) rfl ?_
      refine cf_gsN_ABOVE C dX5_say_33 ?_
      refine cf_iload C dX5_say_36 1 rfl ?_
      refine cf_sl_ABOVE C dX5_say_38 hm (fun hm => ?_)
      refine cf_nmI hm (fun v4 hm => ?_)
      refine cf_istore C (L1 := [(7, .int v4), (6, .int v3), (5, .int v2), (0, .ref (adr (vG E) 12 0)), (1, .int x1), (2, .int x2), (3, .int x3), (4, .int x4)]) dX5_say_39 (by decide) rfl ?_
      refine cf_aload_n C dX5_say_41 rfl 3 rfl ?_
      refine cf_iload C dX5_say_42 1 rfl ?_
      refine cf_callVv C [.int v3] [] okC_12.1 (ocell_5 okC_12.2.1) rfl q610 q16 (c_X5_began (vL E) (vG E) v3 _ _  hm) q608 q611 q70 md_X5_began (by omega) (by omega) rfl rfl (Nat.le_of_ble_eq_true rfl) dX5_say_44 (fun S5 hm => ?_)
      refine cf_iload C dX5_say_47 1 rfl ?_
      rcases ifc hm with ⟨hx, hm⟩ | ⟨h49_10, hm⟩
      · refine cf_lk C dX5_say_49 (by decide +kernel) (off := 115) (by rw [hx]; rfl) (tgt := 164) (by decide) ?_
        refine cf_iload_n C dX5_say_164 rfl 6 rfl ?_
        refine cf_aload_n C dX5_say_165 rfl 3 rfl ?_
        refine gf_5_4 C inX5 okC_12 q241 dX5_say_166 ?_
        refine cf_iadd C dX5_say_169 ?_
        exact hR _ _ _ _ dX5_say_170 hm
      rcases ifc hm with ⟨hx, hm⟩ | ⟨h49_11, hm⟩
      · refine cf_lk C dX5_say_49 (by decide +kernel) (off := 122) (by rw [hx]; rfl) (tgt := 171) (by decide) ?_
        refine cf_aload_n C dX5_say_171 rfl 3 rfl ?_
        refine cf_iconst C dX5_say_172 (v := 0) rfl ?_
        refine cf_aload_n C dX5_say_173 rfl 3 rfl ?_
        refine gf_5_3 C inX5 okC_12 q240 dX5_say_174 ?_
        refine cf_iload_n C dX5_say_177 rfl 6 rfl ?_
        refine cf_iload C dX5_say_178 7 rfl ?_
        refine cf_iconst C dX5_say_180 (v := 1) rfl ?_
        refine cf_iadd C dX5_say_181 ?_
        refine cf_callVi C [.int 0, .int (S5.1 12 3), .int x3, .int (x4 + 1)] [] okC_12.1 (ocell_5 okC_12.2.1) rfl q600 q15 (hr_X5_say 0 (S5.1 12 3) x3 (x4 + 1) _ _  hm) q598 q601 q70 md_X5_say (by omega) (by omega) rfl rfl (Nat.le_of_ble_eq_true rfl) dX5_say_182 (fun v7 S6 hm => ?_)
        refine cf_iconst C dX5_say_185 (v := 2) rfl ?_
        refine cf_imul C dX5_say_186 ?_
        exact hR _ _ _ _ dX5_say_187 hm
      rcases ifc hm with ⟨hx, hm⟩ | ⟨h49_12, hm⟩
      · refine cf_lk C dX5_say_49 (by decide +kernel) (off := 139) (by rw [hx]; rfl) (tgt := 188) (by decide) ?_
        refine cf_aload_n C dX5_say_188 rfl 3 rfl ?_
        refine cf_iconst C dX5_say_189 (v := 1) rfl ?_
        refine cf_aload_n C dX5_say_190 rfl 3 rfl ?_
        refine gf_5_3 C inX5 okC_12 q240 dX5_say_191 ?_
        refine cf_iload_n C dX5_say_194 rfl 6 rfl ?_
        refine cf_iload C dX5_say_195 7 rfl ?_
        refine cf_iconst C dX5_say_197 (v := 1) rfl ?_
        refine cf_iadd C dX5_say_198 ?_
        refine cf_callVi C [.int 1, .int (S5.1 12 3), .int x3, .int (x4 + 1)] [] okC_12.1 (ocell_5 okC_12.2.1) rfl q600 q15 (hr_X5_say 1 (S5.1 12 3) x3 (x4 + 1) _ _  hm) q598 q601 q70 md_X5_say (by omega) (by omega) rfl rfl (Nat.le_of_ble_eq_true rfl) dX5_say_199 (fun v9 S8 hm => ?_)
        refine cf_aload_n C dX5_say_202 rfl 3 rfl ?_
        refine gf_5_5 C inX5 okC_12 q242 dX5_say_203 ?_
        refine cf_isub C dX5_say_206 ?_
        exact hR _ _ _ _ dX5_say_207 hm
      rcases ifc hm with ⟨hx, hm⟩ | ⟨h49_13, hm⟩
      · refine cf_lk C dX5_say_49 (by decide +kernel) (off := 159) (by rw [hx]; rfl) (tgt := 208) (by decide) ?_
        refine cf_aload_n C dX5_say_208 rfl 3 rfl ?_
        refine cf_iload_n C dX5_say_209 rfl 6 rfl ?_
        refine cf_callVi C [.int x3] [] okC_12.1 (ocell_5 okC_12.2.1) rfl q614 q17 (c_X5_part (vL E) (vG E) x3 _ _  hm) q612 q615 q70 md_X5_part (by omega) (by omega) rfl rfl (Nat.le_of_ble_eq_true rfl) dX5_say_210 (fun v11 S10 hm => ?_)
        exact hR _ _ _ _ dX5_say_213 hm
      rcases ifc hm with ⟨hx, hm⟩ | ⟨h49_20, hm⟩
      · refine cf_lk C dX5_say_49 (by decide +kernel) (off := 165) (by rw [hx]; rfl) (tgt := 214) (by decide) ?_
        refine cf_aload_n C dX5_say_214 rfl 3 rfl ?_
        refine cf_iconst C dX5_say_215 (v := 0) rfl ?_
        refine cf_iload C dX5_say_216 0 rfl ?_
        refine cf_iload_n C dX5_say_218 rfl 6 rfl ?_
        refine cf_iload C dX5_say_219 7 rfl ?_
        refine cf_iconst C dX5_say_221 (v := 1) rfl ?_
        refine cf_iadd C dX5_say_222 ?_
        refine cf_callVi C [.int 0, .int v4, .int x3, .int (x4 + 1)] [] okC_12.1 (ocell_5 okC_12.2.1) rfl q600 q15 (hr_X5_say 0 v4 x3 (x4 + 1) _ _  hm) q598 q601 q70 md_X5_say (by omega) (by omega) rfl rfl (Nat.le_of_ble_eq_true rfl) dX5_say_223 (fun v13 S12 hm => ?_)
        refine cf_iconst C dX5_say_226 (v := 4) rfl ?_
        refine cf_isub C dX5_say_227 ?_
        exact hR _ _ _ _ dX5_say_228 hm
      rcases ifc hm with ⟨hx, hm⟩ | ⟨h49_21, hm⟩
      · refine cf_lk C dX5_say_49 (by decide +kernel) (off := 180) (by rw [hx]; rfl) (tgt := 229) (by decide) ?_
        refine cf_aload_n C dX5_say_229 rfl 3 rfl ?_
        refine cf_aload_n C dX5_say_230 rfl 3 rfl ?_
        refine cf_iconst C dX5_say_231 (v := 3) rfl ?_
        refine cf_iload C dX5_say_232 0 rfl ?_
        refine cf_iload_n C dX5_say_234 rfl 6 rfl ?_
        refine cf_iload C dX5_say_235 7 rfl ?_
        refine cf_iconst C dX5_say_237 (v := 1) rfl ?_
        refine cf_iadd C dX5_say_238 ?_
        refine cf_callVi C [.int 3, .int v4, .int x3, .int (x4 + 1)] [.ref (adr (vG E) 12 0)] okC_12.1 (ocell_5 okC_12.2.1) rfl q600 q15 (hr_X5_say 3 v4 x3 (x4 + 1) _ _  hm) q598 q601 q70 md_X5_say (by omega) (by omega) rfl rfl (Nat.le_of_ble_eq_true rfl) dX5_say_239 (fun v15 S14 hm => ?_)
        refine cf_iload C dX5_say_242 7 rfl ?_
        refine cf_callVi C [.int v15, .int x4] [] okC_12.1 (ocell_5 okC_12.2.1) rfl q618 q18 (hr_X5_partOfJoint v15 x4 _ _  hm) q616 q619 q70 md_X5_partOfJoint (by omega) (by omega) rfl rfl (Nat.le_of_ble_eq_true rfl) dX5_say_244 (fun v17 S16 hm => ?_)
        exact hR _ _ _ _ dX5_say_247 hm
      rcases ifc hm with ⟨hx, hm⟩ | ⟨h49_30, hm⟩
      · refine cf_lk C dX5_say_49 (by decide +kernel) (off := 199) (by rw [hx]; rfl) (tgt := 248) (by decide) ?_
        refine cf_iconst C dX5_say_248 (v := 0) rfl ?_
        refine cf_aload_n C dX5_say_249 rfl 3 rfl ?_
        refine cf_iconst C dX5_say_250 (v := 1) rfl ?_
        refine cf_iload C dX5_say_251 0 rfl ?_
        refine cf_iload_n C dX5_say_253 rfl 6 rfl ?_
        refine cf_iload C dX5_say_254 7 rfl ?_
        refine cf_iconst C dX5_say_256 (v := 1) rfl ?_
        refine cf_iadd C dX5_say_257 ?_
        refine cf_callVi C [.int 1, .int v4, .int x3, .int (x4 + 1)] [.int 0] okC_12.1 (ocell_5 okC_12.2.1) rfl q600 q15 (hr_X5_say 1 v4 x3 (x4 + 1) _ _  hm) q598 q601 q70 md_X5_say (by omega) (by omega) rfl rfl (Nat.le_of_ble_eq_true rfl) dX5_say_258 (fun v19 S18 hm => ?_)
        refine cf_isub C dX5_say_261 ?_
        exact hR _ _ _ _ dX5_say_262 hm
      rcases ifc hm with ⟨hx, hm⟩ | ⟨h49_40, hm⟩
      · refine cf_lk C dX5_say_49 (by decide +kernel) (off := 214) (by rw [hx]; rfl) (tgt := 263) (by decide) ?_
        refine cf_aload_n C dX5_say_263 rfl 3 rfl ?_
        refine cf_iconst C dX5_say_264 (v := 2) rfl ?_
        refine cf_iload C dX5_say_265 0 rfl ?_
        refine cf_iload_n C dX5_say_267 rfl 6 rfl ?_
        refine cf_iconst C dX5_say_268 (v := 2) rfl ?_
        refine cf_idivC C dX5_say_269 (by decide) ?_
        refine cf_iload C dX5_say_270 7 rfl ?_
        refine cf_iconst C dX5_say_272 (v := 1) rfl ?_
        refine cf_iadd C dX5_say_273 ?_
        refine cf_callVi C [.int 2, .int v4, .int (x3 / 2), .int (x4 + 1)] [] okC_12.1 (ocell_5 okC_12.2.1) rfl q600 q15 (hr_X5_say 2 v4 (x3 / 2) (x4 + 1) _ _  hm) q598 q601 q70 md_X5_say (by omega) (by omega) rfl rfl (Nat.le_of_ble_eq_true rfl) dX5_say_274 (fun v21 S20 hm => ?_)
        exact hR _ _ _ _ dX5_say_277 hm
      rcases ifc hm with ⟨hx, hm⟩ | ⟨h49_50, hm⟩
      · refine cf_lk C dX5_say_49 (by decide +kernel) (off := 229) (by rw [hx]; rfl) (tgt := 278) (by decide) ?_
        refine cf_aload_n C dX5_say_278 rfl 3 rfl ?_
        refine cf_iconst C dX5_say_279 (v := 0) rfl ?_
        refine cf_iload C dX5_say_280 0 rfl ?_
        refine cf_iload_n C dX5_say_282 rfl 6 rfl ?_
        refine cf_iload C dX5_say_283 7 rfl ?_
        refine cf_iconst C dX5_say_285 (v := 1) rfl ?_
        refine cf_iadd C dX5_say_286 ?_
        refine cf_callVi C [.int 0, .int v4, .int x3, .int (x4 + 1)] [] okC_12.1 (ocell_5 okC_12.2.1) rfl q600 q15 (hr_X5_say 0 v4 x3 (x4 + 1) _ _  hm) q598 q601 q70 md_X5_say (by omega) (by omega) rfl rfl (Nat.le_of_ble_eq_true rfl) dX5_say_287 (fun v23 S22 hm => ?_)
        refine cf_iconst C dX5_say_290 (v := 3) rfl ?_
        refine cf_imul C dX5_say_291 ?_
        exact hR _ _ _ _ dX5_say_292 hm
      rcases ifc hm with ⟨hx, hm⟩ | ⟨h49_51, hm⟩
      · refine cf_lk C dX5_say_49 (by decide +kernel) (off := 244) (by rw [hx]; rfl) (tgt := 293) (by decide) ?_
        refine cf_aload_n C dX5_say_293 rfl 3 rfl ?_
        refine cf_iconst C dX5_say_294 (v := 2) rfl ?_
        refine cf_iload C dX5_say_295 0 rfl ?_
        refine cf_iload_n C dX5_say_297 rfl 6 rfl ?_
        refine cf_iload C dX5_say_298 7 rfl ?_
        refine cf_iconst C dX5_say_300 (v := 1) rfl ?_
        refine cf_iadd C dX5_say_301 ?_
        refine cf_callVi C [.int 2, .int v4, .int x3, .int (x4 + 1)] [] okC_12.1 (ocell_5 okC_12.2.1) rfl q600 q15 (hr_X5_say 2 v4 x3 (x4 + 1) _ _  hm) q598 q601 q70 md_X5_say (by omega) (by omega) rfl rfl (Nat.le_of_ble_eq_true rfl) dX5_say_302 (fun v25 S24 hm => ?_)
        refine cf_aload_n C dX5_say_305 rfl 3 rfl ?_
        refine gf_5_4 C inX5 okC_12 q241 dX5_say_306 ?_
        refine cf_ixor C dX5_say_309 ?_
        exact hR _ _ _ _ dX5_say_310 hm
      rcases ifc hm with ⟨hx, hm⟩ | ⟨h49_60, hm⟩
      · refine cf_lk C dX5_say_49 (by decide +kernel) (off := 262) (by rw [hx]; rfl) (tgt := 311) (by decide) ?_
        refine cf_aload_n C dX5_say_311 rfl 3 rfl ?_
        refine cf_iconst C dX5_say_312 (v := 1) rfl ?_
        refine cf_iload C dX5_say_313 0 rfl ?_
        refine cf_iload_n C dX5_say_315 rfl 6 rfl ?_
        refine cf_iconst C dX5_say_316 (v := 1) rfl ?_
        refine cf_iadd C dX5_say_317 ?_
        refine cf_iload C dX5_say_318 7 rfl ?_
        refine cf_iconst C dX5_say_320 (v := 1) rfl ?_
        refine cf_iadd C dX5_say_321 ?_
        refine cf_callVi C [.int 1, .int v4, .int (x3 + 1), .int (x4 + 1)] [] okC_12.1 (ocell_5 okC_12.2.1) rfl q600 q15 (hr_X5_say 1 v4 (x3 + 1) (x4 + 1) _ _  hm) q598 q601 q70 md_X5_say (by omega) (by omega) rfl rfl (Nat.le_of_ble_eq_true rfl) dX5_say_322 (fun v27 S26 hm => ?_)
        exact hR _ _ _ _ dX5_say_325 hm
      rcases ifc hm with ⟨hx, hm⟩ | ⟨h49_70, hm⟩
      · refine cf_lk C dX5_say_49 (by decide +kernel) (off := 277) (by rw [hx]; rfl) (tgt := 326) (by decide) ?_
        refine cf_bipush C dX5_say_326 (v := 9) rfl ?_
        exact hR _ _ _ _ dX5_say_328 hm
      rcases ifc hm with ⟨hx, hm⟩ | ⟨h49_71, hm⟩
      · refine cf_lk C dX5_say_49 (by decide +kernel) (off := 280) (by rw [hx]; rfl) (tgt := 329) (by decide) ?_
        refine cf_aload_n C dX5_say_329 rfl 3 rfl ?_
        refine cf_iconst C dX5_say_330 (v := 1) rfl ?_
        refine cf_iload C dX5_say_331 0 rfl ?_
        refine cf_iload_n C dX5_say_333 rfl 6 rfl ?_
        refine cf_iload C dX5_say_334 7 rfl ?_
        refine cf_iconst C dX5_say_336 (v := 1) rfl ?_
        refine cf_iadd C dX5_say_337 ?_
        refine cf_callVi C [.int 1, .int v4, .int x3, .int (x4 + 1)] [] okC_12.1 (ocell_5 okC_12.2.1) rfl q600 q15 (hr_X5_say 1 v4 x3 (x4 + 1) _ _  hm) q598 q601 q70 md_X5_say (by omega) (by omega) rfl rfl (Nat.le_of_ble_eq_true rfl) dX5_say_338 (fun v29 S28 hm => ?_)
        refine cf_aload_n C dX5_say_341 rfl 3 rfl ?_
        refine gf_5_5 C inX5 okC_12 q242 dX5_say_342 ?_
        refine cf_iadd C dX5_say_345 ?_
        exact hR _ _ _ _ dX5_say_346 hm
      refine cf_lk C dX5_say_49 (by decide +kernel) (off := 298) (show Op.lookupswitch.offset [(10, 115), (11, 122), (12, 139), (13, 159), (20, 165), (21, 180), (30, 199), (40, 214), (50, 229), (51, 244), (60, 262), (70, 277), (71, 280)] 298 _ = _ from ((lv_osw h49_10 rfl).trans ((lv_osw h49_11 rfl).trans ((lv_osw h49_12 rfl).trans ((lv_osw h49_13 rfl).trans ((lv_osw h49_20 rfl).trans ((lv_osw h49_21 rfl).trans ((lv_osw h49_30 rfl).trans ((lv_osw h49_40 rfl).trans ((lv_osw h49_50 rfl).trans ((lv_osw h49_51 rfl).trans ((lv_osw h49_60 rfl).trans ((lv_osw h49_70 rfl).trans ((lv_osw h49_71 rfl).trans rfl)))))))))))))) (tgt := 347) (by decide) ?_
      refine cf_iconst C dX5_say_347 (v := 0) rfl ?_
      exact hR _ _ _ _ dX5_say_348 hm
    · refine cf_iconst C dX5_say_19 (v := 0) rfl ?_
      exact hR _ _ _ _ dX5_say_20 hm
def B_X5_partOfJoint (r_X5_say : Int32 → Int32 → Int32 → Int32 → St → (Int32 → St → Prop) → Prop) (r_X5_partOfJoint : Int32 → Int32 → St → (Int32 → St → Prop) → Prop) (x1 : Int32) (x2 : Int32) (S : St) (Q : Int32 → St → Prop) : Prop := if (S.1 12 2) = 0 then (r_X5_say 1 (S.1 12 3) 1 (x2 + 1) S (fun v2 S1 => Q (x1 + v2) S1)) else (Q 0 S)
set_option maxRecDepth 20000 in
theorem cb_X5_partOfJoint (l : Launch) (G : GX) (D : Nat) {r_X5_say : Int32 → Int32 → Int32 → Int32 → St → (Int32 → St → Prop) → Prop} {r_X5_partOfJoint : Int32 → Int32 → St → (Int32 → St → Prop) → Prop} (hr_X5_say : ∀ (x1 : Int32) (x2 : Int32) (x3 : Int32) (x4 : Int32) (S : St) (Q : Int32 → St → Prop), r_X5_say x1 x2 x3 x4 S Q → CTi l yX5_say (Cond.code yX5_say cX5_say 8 (some .int) :: AW) { frames := D + 1, cells := 0, slots := 0, locals := 30 * D + 23 } G enC [.ref (adr G 12 0), .int x1, .int x2, .int x3, .int x4] S Q) (hr_X5_partOfJoint : ∀ (x1 : Int32) (x2 : Int32) (S : St) (Q : Int32 → St → Prop), r_X5_partOfJoint x1 x2 S Q → CTi l yX5_partOfJoint (Cond.code yX5_partOfJoint cX5_partOfJoint 3 (some .int) :: AW) { frames := D + 1, cells := 0, slots := 0, locals := 30 * D + 23 } G enC [.ref (adr G 12 0), .int x1, .int x2] S Q) (x1 : Int32) (x2 : Int32) (S : St) (Q : Int32 → St → Prop)  (hm : B_X5_partOfJoint r_X5_say r_X5_partOfJoint x1 x2 S Q) : CTi l yX5_partOfJoint (Cond.code yX5_partOfJoint cX5_partOfJoint 3 (some .int) :: AW) { frames := (D + 1 + 1), cells := 0, slots := 0, locals := (30 * (D + 1) + 23) } G enC [.ref (adr G 12 0), .int x1, .int x2] S Q := by
  refine ct_start_i (by decide) enC_nd (Nat.le_of_ble_eq_true rfl) (fun E hG hl C hR => ?_)
  subst hG
  subst hl
  show CF E S 0 [(0, .ref (adr (vG E) 12 0)), (1, .int x1), (2, .int x2)] []
  unfold B_X5_partOfJoint at hm
  refine cf_aload_n C dX5_partOfJoint_0 rfl 0 rfl ?_
  refine gf_5_2 C inX5 okC_12 q238 dX5_partOfJoint_1 ?_
  refine cf_if_eq C (tgt := 11) dX5_partOfJoint_4 (by decide) hm (fun hm => ?_) (fun hm => ?_)
  · refine cf_iload_n C dX5_partOfJoint_11 rfl 1 rfl ?_
    refine cf_aload_n C dX5_partOfJoint_12 rfl 0 rfl ?_
    refine cf_iconst C dX5_partOfJoint_13 (v := 1) rfl ?_
    refine cf_aload_n C dX5_partOfJoint_14 rfl 0 rfl ?_
    refine gf_5_3 C inX5 okC_12 q240 dX5_partOfJoint_15 ?_
    refine cf_iconst C dX5_partOfJoint_18 (v := 1) rfl ?_
    refine cf_iload_n C dX5_partOfJoint_19 rfl 2 rfl ?_
    refine cf_iconst C dX5_partOfJoint_20 (v := 1) rfl ?_
    refine cf_iadd C dX5_partOfJoint_21 ?_
    refine cf_callVi C [.int 1, .int (S.1 12 3), .int 1, .int (x2 + 1)] [.int x1] okC_12.1 (ocell_5 okC_12.2.1) rfl q600 q15 (hr_X5_say 1 (S.1 12 3) 1 (x2 + 1) _ _  hm) q598 q601 q70 md_X5_say (by omega) (by omega) rfl rfl (Nat.le_of_ble_eq_true rfl) dX5_partOfJoint_22 (fun v2 S1 hm => ?_)
    refine cf_iadd C dX5_partOfJoint_25 ?_
    exact hR _ _ _ _ dX5_partOfJoint_26 hm
  · refine cf_iconst C dX5_partOfJoint_7 (v := 0) rfl ?_
    refine cf_goto C (tgt := 26) dX5_partOfJoint_8 (by decide) ?_
    exact hR _ _ _ _ dX5_partOfJoint_26 hm
def G_X5_say : Nat → (Int32 → Int32 → Int32 → Int32 → St → (Int32 → St → Prop) → Prop) × (Int32 → Int32 → St → (Int32 → St → Prop) → Prop)
  | 0 => ((fun _ _ _ _ _ _ => False), (fun _ _ _ _ => False))
  | D + 1 => (B_X5_say (G_X5_say D).1 (G_X5_say D).2, B_X5_partOfJoint (G_X5_say D).1 (G_X5_say D).2)
theorem cg_X5_say (l : Launch) (G : GX) : ∀ D : Nat, (∀ (x1 : Int32) (x2 : Int32) (x3 : Int32) (x4 : Int32) (S : St) (Q : Int32 → St → Prop), (G_X5_say D).1 x1 x2 x3 x4 S Q → CTi l yX5_say (Cond.code yX5_say cX5_say 8 (some .int) :: AW) { frames := D + 1, cells := 0, slots := 0, locals := 30 * D + 23 } G enC [.ref (adr G 12 0), .int x1, .int x2, .int x3, .int x4] S Q) ∧ (∀ (x1 : Int32) (x2 : Int32) (S : St) (Q : Int32 → St → Prop), (G_X5_say D).2 x1 x2 S Q → CTi l yX5_partOfJoint (Cond.code yX5_partOfJoint cX5_partOfJoint 3 (some .int) :: AW) { frames := D + 1, cells := 0, slots := 0, locals := 30 * D + 23 } G enC [.ref (adr G 12 0), .int x1, .int x2] S Q) := by
  intro D
  induction D with
  | zero => exact ⟨fun _ _ _ _ _ _ hm => hm.elim, fun _ _ _ _ hm => hm.elim⟩
  | succ D ih => exact ⟨fun x1 x2 x3 x4 S Q  hm => cb_X5_say l G D ih.1 ih.2 x1 x2 x3 x4 S Q  hm, fun x1 x2 S Q  hm => cb_X5_partOfJoint l G D ih.1 ih.2 x1 x2 S Q  hm⟩
def E_X5_say (x1 : Int32) (x2 : Int32) (x3 : Int32) (x4 : Int32) (S : St) (Q : Int32 → St → Prop) : Prop := (G_X5_say 64).1 x1 x2 x3 x4 S Q
theorem c_X5_say (l : Launch) (G : GX) (x1 : Int32) (x2 : Int32) (x3 : Int32) (x4 : Int32) (S : St) (Q : Int32 → St → Prop)  (hm : E_X5_say x1 x2 x3 x4 S Q) : CTi l yX5_say (Cond.code yX5_say cX5_say 8 (some .int) :: AW) { frames := 65, cells := 0, slots := 0, locals := 1943 } G enC [.ref (adr G 12 0), .int x1, .int x2, .int x3, .int x4] S Q := (cg_X5_say l G 64).1 x1 x2 x3 x4 S Q  hm
def E_X5_partOfJoint (x1 : Int32) (x2 : Int32) (S : St) (Q : Int32 → St → Prop) : Prop := (G_X5_say 64).2 x1 x2 S Q
theorem c_X5_partOfJoint (l : Launch) (G : GX) (x1 : Int32) (x2 : Int32) (S : St) (Q : Int32 → St → Prop)  (hm : E_X5_partOfJoint x1 x2 S Q) : CTi l yX5_partOfJoint (Cond.code yX5_partOfJoint cX5_partOfJoint 3 (some .int) :: AW) { frames := 65, cells := 0, slots := 0, locals := 1943 } G enC [.ref (adr G 12 0), .int x1, .int x2] S Q := (cg_X5_say l G 64).2 x1 x2 S Q  hm

def E_X5_speak (p1 : Nat) (x2 : Int32) (x3 : Int32) (x4 : Int32) (S : St) (Q : Int32 → St → Prop) : Prop := vp_in x2 9 ∧ (nmS (stI S 12 3 (S.2 p1 5 x2.toNatClampNeg)) (fun S1 => nmS (stI S1 12 4 x2) (fun S2 => vp_in x2 9 ∧ (nmS (stI S2 12 5 (S2.2 p1 6 x2.toNatClampNeg)) (fun S3 => nmS (stI S3 12 1 0) (fun S4 => nmS (stI S4 12 2 0) (fun S5 => E_X5_say x3 (S5.1 12 3) x4 0 S5 (fun v7 S6 => Q v7 S6))))))))
set_option maxRecDepth 20000 in
theorem c_X5_speak (l : Launch) (G : GX) (p1 : Nat) (x2 : Int32) (x3 : Int32) (x4 : Int32) (S : St) (Q : Int32 → St → Prop) (h1 : okO enC p1 4) (hm : E_X5_speak p1 x2 x3 x4 S Q) : CTi l yX5_speak (Cond.code yX5_speak cX5_speak 5 (some .int) :: AW) { frames := 66, cells := 0, slots := 0, locals := 1970 } G enC [.ref (adr G 12 0), .ref (adr G p1 0), .int x2, .int x3, .int x4] S Q := by
  refine ct_start_i (by decide) enC_nd (Nat.le_of_ble_eq_true rfl) (fun E hG hl C hR => ?_)
  subst hG
  subst hl
  show CF E S 0 [(0, .ref (adr (vG E) 12 0)), (1, .ref (adr (vG E) p1 0)), (2, .int x2), (3, .int x3), (4, .int x4)] []
  unfold E_X5_speak at hm
  refine cf_aload_n C dX5_speak_0 rfl 0 rfl ?_
  refine cf_aload_n C dX5_speak_1 rfl 1 rfl ?_
  refine gf_4_5 C inX4 h1 q129 dX5_speak_2 ?_
  refine cf_iload_n C dX5_speak_5 rfl 2 rfl ?_
  refine cf_iald C (okA_of 5 h1 rfl (by decide) (by decide) (by decide)) dX5_speak_6 hm (fun hm => ?_)
  refine pf_5_3 C inX5 okC_12 q240 dX5_speak_7 ?_
  refine cf_nmS hm (fun S1 hm => ?_)
  refine cf_aload_n C dX5_speak_10 rfl 0 rfl ?_
  refine cf_iload_n C dX5_speak_11 rfl 2 rfl ?_
  refine pf_5_4 C inX5 okC_12 q241 dX5_speak_12 ?_
  refine cf_nmS hm (fun S2 hm => ?_)
  refine cf_aload_n C dX5_speak_15 rfl 0 rfl ?_
  refine cf_aload_n C dX5_speak_16 rfl 1 rfl ?_
  refine gf_4_6 C inX4 h1 q132 dX5_speak_17 ?_
  refine cf_iload_n C dX5_speak_20 rfl 2 rfl ?_
  refine cf_iald C (okA_of 6 h1 rfl (by decide) (by decide) (by decide)) dX5_speak_21 hm (fun hm => ?_)
  refine pf_5_5 C inX5 okC_12 q242 dX5_speak_22 ?_
  refine cf_nmS hm (fun S3 hm => ?_)
  refine cf_aload_n C dX5_speak_25 rfl 0 rfl ?_
  refine cf_iconst C dX5_speak_26 (v := 0) rfl ?_
  refine pf_5_1 C inX5 okC_12 q236 dX5_speak_27 ?_
  refine cf_nmS hm (fun S4 hm => ?_)
  refine cf_aload_n C dX5_speak_30 rfl 0 rfl ?_
  refine cf_iconst C dX5_speak_31 (v := 0) rfl ?_
  refine pf_5_2 C inX5 (Or.inl rfl) okC_12 q238 dX5_speak_32 ?_
  refine cf_nmS hm (fun S5 hm => ?_)
  refine cf_aload_n C dX5_speak_35 rfl 0 rfl ?_
  refine cf_iload_n C dX5_speak_36 rfl 3 rfl ?_
  refine cf_aload_n C dX5_speak_37 rfl 0 rfl ?_
  refine gf_5_3 C inX5 okC_12 q240 dX5_speak_38 ?_
  refine cf_iload C dX5_speak_41 4 rfl ?_
  refine cf_iconst C dX5_speak_43 (v := 0) rfl ?_
  refine cf_callVi C [.int x3, .int (S5.1 12 3), .int x4, .int 0] [] okC_12.1 (ocell_5 okC_12.2.1) rfl q600 q15 (c_X5_say (vL E) (vG E) x3 (S5.1 12 3) x4 0 _ _  hm) q598 q601 q70 md_X5_say (Nat.le_of_ble_eq_true rfl) (Nat.le_of_ble_eq_true rfl) rfl rfl (Nat.le_of_ble_eq_true rfl) dX5_speak_44 (fun v7 S6 hm => ?_)
  exact hR _ _ _ _ dX5_speak_47 hm

def E_X6_voice (x1 : Int32) (x2 : Int32) (x3 : Int32) (S : St) (Q : Int32 → St → Prop) : Prop := E_X4_has 3 x1 S (fun v2 S1 => if v2 = 0 then (E_X6_wrong 1 S1 (fun v4 S3 => Q v4 S3)) else (E_X6_within x2 0 3 S1 (fun v6 S5 => if v6 = 0 then (E_X6_wrong 1 S5 (fun v12 S11 => Q v12 S11)) else (E_X5_speak 3 x1 x2 x3 S5 (fun v8 S7 => if (S7.1 12 2) = 0 then (Q v8 S7) else (E_X6_wrong 6 S7 (fun v10 S9 => Q v10 S9)))))))
set_option maxRecDepth 20000 in
theorem c_X6_voice (l : Launch) (G : GX) (x1 : Int32) (x2 : Int32) (x3 : Int32) (S : St) (Q : Int32 → St → Prop)  (hm : E_X6_voice x1 x2 x3 S Q) : CTi l yX6_voice (Cond.code yX6_voice cX6_voice 5 (some .int) :: AW) { frames := 67, cells := 0, slots := 0, locals := 1994 } G enC [.ref (adr G 0 0), .int x1, .int x2, .int x3] S Q := by
  refine ct_start_i (by decide) enC_nd (Nat.le_of_ble_eq_true rfl) (fun E hG hl C hR => ?_)
  subst hG
  subst hl
  show CF E S 0 [(0, .ref (adr (vG E) 0 0)), (1, .int x1), (2, .int x2), (3, .int x3)] []
  unfold E_X6_voice at hm
  refine cf_aload_n C dX6_voice_0 rfl 0 rfl ?_
  refine gf_6_2 C inX6 okC_0 q278 dX6_voice_1 ?_
  refine cf_iload_n C dX6_voice_4 rfl 1 rfl ?_
  refine cf_callVi C [.int x1] [] okC_3.1 (ocell_4 okC_3.2.1) rfl q328 q329 (c_X4_has (vL E) (vG E) 3 x1 _ _ okC_3 hm) q327 q330 q68 md_X4_has (Nat.le_of_ble_eq_true rfl) (Nat.le_of_ble_eq_true rfl) rfl rfl (Nat.le_of_ble_eq_true rfl) dX6_voice_5 (fun v2 S1 hm => ?_)
  refine cf_if_eq C (tgt := 20) dX6_voice_8 (by decide) hm (fun hm => ?_) (fun hm => ?_)
  · refine cf_aload_n C dX6_voice_20 rfl 0 rfl ?_
    refine cf_iconst C dX6_voice_21 (v := 1) rfl ?_
    refine cf_callVi C [.int 1] [] okC_0.1 (ocell_6 okC_0.2.1) rfl q316 q0 (c_X6_wrong (vL E) (vG E) 1 _ _  hm) q314 q317 q65 md_X6_wrong (Nat.le_of_ble_eq_true rfl) (Nat.le_of_ble_eq_true rfl) rfl rfl (Nat.le_of_ble_eq_true rfl) dX6_voice_22 (fun v4 S3 hm => ?_)
    exact hR _ _ _ _ dX6_voice_25 hm
  · refine cf_iload_n C dX6_voice_11 rfl 2 rfl ?_
    refine cf_iconst C dX6_voice_12 (v := 0) rfl ?_
    refine cf_iconst C dX6_voice_13 (v := 3) rfl ?_
    refine cf_callSi C [.int x2, .int 0, .int 3] [] q312 (c_X6_within (vL E) (vG E) x2 0 3 _ _  hm) q311 q313 q65 md_X6_within (Nat.le_of_ble_eq_true rfl) (Nat.le_of_ble_eq_true rfl) rfl rfl (Nat.le_of_ble_eq_true rfl) dX6_voice_14 (fun v6 S5 hm => ?_)
    refine cf_if_ne C (tgt := 26) dX6_voice_17 (by decide) hm (fun hm => ?_) (fun hm => ?_)
    · refine cf_aload_n C dX6_voice_26 rfl 0 rfl ?_
      refine gf_6_5 C inX6 okC_0 q281 dX6_voice_27 ?_
      refine cf_aload_n C dX6_voice_30 rfl 0 rfl ?_
      refine gf_6_2 C inX6 okC_0 q278 dX6_voice_31 ?_
      refine cf_iload_n C dX6_voice_34 rfl 1 rfl ?_
      refine cf_iload_n C dX6_voice_35 rfl 2 rfl ?_
      refine cf_iload_n C dX6_voice_36 rfl 3 rfl ?_
      refine cf_callVi C [.ref (adr (vG E) 3 0), .int x1, .int x2, .int x3] [] okC_12.1 (ocell_5 okC_12.2.1) rfl q595 q596 (c_X5_speak (vL E) (vG E) 3 x1 x2 x3 _ _ okC_3 hm) q594 q597 q70 md_X5_speak (Nat.le_of_ble_eq_true rfl) (Nat.le_of_ble_eq_true rfl) rfl rfl (Nat.le_of_ble_eq_true rfl) dX6_voice_37 (fun v8 S7 hm => ?_)
      refine cf_istore C (L1 := [(4, .int v8), (0, .ref (adr (vG E) 0 0)), (1, .int x1), (2, .int x2), (3, .int x3)]) dX6_voice_40 (by decide) rfl ?_
      refine cf_aload_n C dX6_voice_42 rfl 1 rfl ?_
      refine gf_6_5 C inX6 okC_0 q281 dX6_voice_43 ?_
      refine gf_5_2 C inX5 okC_12 q239 dX6_voice_46 ?_
      refine cf_if_eq C (tgt := 61) dX6_voice_49 (by decide) hm (fun hm => ?_) (fun hm => ?_)
      · refine cf_iload C dX6_voice_61 0 rfl ?_
        exact hR _ _ _ _ dX6_voice_63 hm
      · refine cf_aload_n C dX6_voice_52 rfl 1 rfl ?_
        refine cf_bipush C dX6_voice_53 (v := 6) rfl ?_
        refine cf_callVi C [.int 6] [] okC_0.1 (ocell_6 okC_0.2.1) rfl q316 q0 (c_X6_wrong (vL E) (vG E) 6 _ _  hm) q314 q317 q65 md_X6_wrong (Nat.le_of_ble_eq_true rfl) (Nat.le_of_ble_eq_true rfl) rfl rfl (Nat.le_of_ble_eq_true rfl) dX6_voice_55 (fun v10 S9 hm => ?_)
        refine cf_goto C (tgt := 63) dX6_voice_58 (by decide) ?_
        exact hR _ _ _ _ dX6_voice_63 hm
    · refine cf_aload_n C dX6_voice_20 rfl 0 rfl ?_
      refine cf_iconst C dX6_voice_21 (v := 1) rfl ?_
      refine cf_callVi C [.int 1] [] okC_0.1 (ocell_6 okC_0.2.1) rfl q316 q0 (c_X6_wrong (vL E) (vG E) 1 _ _  hm) q314 q317 q65 md_X6_wrong (Nat.le_of_ble_eq_true rfl) (Nat.le_of_ble_eq_true rfl) rfl rfl (Nat.le_of_ble_eq_true rfl) dX6_voice_22 (fun v12 S11 hm => ?_)
      exact hR _ _ _ _ dX6_voice_25 hm

def E_X6_body (x1 : Int32) (S : St) (Q : Int32 → St → Prop) : Prop := E_X6_within x1 0 ((S.1 12 1) - 1) S (fun v2 S1 => if v2 = 0 then (E_X6_wrong 2 S1 (fun v4 S3 => Q v4 S3)) else (vp_in x1 30 ∧ (Q (S1.2 12 0 x1.toNatClampNeg) S1)))
set_option maxRecDepth 20000 in
theorem c_X6_body (l : Launch) (G : GX) (x1 : Int32) (S : St) (Q : Int32 → St → Prop)  (hm : E_X6_body x1 S Q) : CTi l yX6_body (Cond.code yX6_body cX6_body 2 (some .int) :: AW) { frames := 1, cells := 0, slots := 0, locals := 22 } G enC [.ref (adr G 0 0), .int x1] S Q := by
  refine ct_start_i (by decide) enC_nd (Nat.le_of_ble_eq_true rfl) (fun E hG hl C hR => ?_)
  subst hG
  subst hl
  show CF E S 0 [(0, .ref (adr (vG E) 0 0)), (1, .int x1)] []
  unfold E_X6_body at hm
  refine cf_iload_n C dX6_body_0 rfl 1 rfl ?_
  refine cf_iconst C dX6_body_1 (v := 0) rfl ?_
  refine cf_aload_n C dX6_body_2 rfl 0 rfl ?_
  refine gf_6_5 C inX6 okC_0 q281 dX6_body_3 ?_
  refine gf_5_1 C inX5 okC_12 q237 dX6_body_6 ?_
  refine cf_iconst C dX6_body_9 (v := 1) rfl ?_
  refine cf_isub C dX6_body_10 ?_
  refine cf_callSi C [.int x1, .int 0, .int ((S.1 12 1) - 1)] [] q312 (c_X6_within (vL E) (vG E) x1 0 ((S.1 12 1) - 1) _ _  hm) q311 q313 q65 md_X6_within (Nat.le_of_ble_eq_true rfl) (Nat.le_of_ble_eq_true rfl) rfl rfl (Nat.le_of_ble_eq_true rfl) dX6_body_11 (fun v2 S1 hm => ?_)
  refine cf_if_eq C (tgt := 29) dX6_body_14 (by decide) hm (fun hm => ?_) (fun hm => ?_)
  · refine cf_aload_n C dX6_body_29 rfl 0 rfl ?_
    refine cf_iconst C dX6_body_30 (v := 2) rfl ?_
    refine cf_callVi C [.int 2] [] okC_0.1 (ocell_6 okC_0.2.1) rfl q316 q0 (c_X6_wrong (vL E) (vG E) 2 _ _  hm) q314 q317 q65 md_X6_wrong (Nat.le_of_ble_eq_true rfl) (Nat.le_of_ble_eq_true rfl) rfl rfl (Nat.le_of_ble_eq_true rfl) dX6_body_31 (fun v4 S3 hm => ?_)
    exact hR _ _ _ _ dX6_body_34 hm
  · refine cf_aload_n C dX6_body_17 rfl 0 rfl ?_
    refine gf_6_5 C inX6 okC_0 q281 dX6_body_18 ?_
    refine gf_5_0 C inX5 okC_12 q235 dX6_body_21 ?_
    refine cf_iload_n C dX6_body_24 rfl 1 rfl ?_
    refine cf_iald C (okA_of 0 okC_12 rfl (by decide) (by decide) (by decide)) dX6_body_25 hm (fun hm => ?_)
    refine cf_goto C (tgt := 34) dX6_body_26 (by decide) ?_
    exact hR _ _ _ _ dX6_body_34 hm

def L_X3_lay_12 (o : Nat)   (Q : St → Prop) : Nat → Int32 → St → Prop
  | 0 => fun _ _ => False
  | n + 1 => fun x3 S => if 24 ≤ x3 then (Q S) else (vp_in x3 24 ∧ (nmS (stR S o 2 (upd (S.2 o 2) x3.toNatClampNeg 0)) (fun S3 => nmI (x3 + 1) (fun v4 => L_X3_lay_12 o Q n v4 S3))))
set_option maxRecDepth 20000 in
theorem w_L_X3_lay_12 {E : EV} {Q : St → Prop} {o : Nat}  (C : CX E cX3_lay RX3 4 enC 0 0) (ho : okO enC o 3)  (hR : RTv E cX3_lay Q) : ∀ (n : Nat) (x3 : Int32) (S : St), L_X3_lay_12 o Q n x3 S → CF E S 12 [(0, .ref (adr (vG E) o 0)), (3, .int x3)] [] := by
  intro n
  induction n with
  | zero =>
    intro x3 S hm
    exact hm.elim
  | succ n ih =>
    intro x3 S hm
    unfold L_X3_lay_12 at hm
    refine cf_iload_n C dX3_lay_12 rfl 1 rfl ?_
    refine cf_bipush C dX3_lay_13 (v := 24) rfl ?_
    refine cf_icmp_ge C (tgt := 31) dX3_lay_15 (by decide) hm (fun hm => ?_) (fun hm => ?_)
    · exact hR _ _ _ dX3_lay_31 hm
    · refine cf_aload_n C dX3_lay_18 rfl 0 rfl ?_
      refine gf_3_2 C inX3 ho q267 dX3_lay_19 ?_
      refine cf_iload_n C dX3_lay_22 rfl 1 rfl ?_
      refine cf_iconst C dX3_lay_23 (v := 0) rfl ?_
      refine cf_iast C (okA_of 2 ho rfl (by decide) (by decide) (by decide)) dX3_lay_24 hm (fun hm => ?_)
      refine cf_nmS hm (fun S3 hm => ?_)
      refine cf_iincN C (L1 := fun v4 => [(3, .int v4), (0, .ref (adr (vG E) o 0))]) dX3_lay_25 1 rfl rfl (by decide) (fun _ => rfl) hm (fun v4 hm => ?_)
      refine cf_goto C (tgt := 12) dX3_lay_28 (by decide) ?_
      refine cf_sub C [1, 0] rfl ?_
      exact ih v4 _ hm
def E_X3_lay (o : Nat) (x1 : Int32) (x2 : Int32) (S : St) (Q : St → Prop) : Prop := nmS (stI S o 0 x1) (fun S1 => nmS (stI S1 o 1 x2) (fun S2 => ∃ k, L_X3_lay_12 o Q k 0 S2))
set_option maxRecDepth 20000 in
theorem c_X3_lay (l : Launch) (G : GX) (o : Nat) (x1 : Int32) (x2 : Int32) (S : St) (Q : St → Prop) (ho : okO enC o 3) (hm : E_X3_lay o x1 x2 S Q) : CTv l yX3_lay (Cond.code yX3_lay cX3_lay 4 none :: AW) { frames := 0, cells := 0, slots := 0, locals := 0 } G enC [.ref (adr G o 0), .int x1, .int x2] S Q := by
  refine ct_start_v (by decide) enC_nd (Nat.le_of_ble_eq_true rfl) (fun E hG hl C hR => ?_)
  subst hG
  subst hl
  show CF E S 0 [(0, .ref (adr (vG E) o 0)), (1, .int x1), (2, .int x2)] []
  unfold E_X3_lay at hm
  refine cf_aload_n C dX3_lay_0 rfl 0 rfl ?_
  refine cf_iload_n C dX3_lay_1 rfl 1 rfl ?_
  refine pf_3_0 C inX3 ho q263 dX3_lay_2 ?_
  refine cf_nmS hm (fun S1 hm => ?_)
  refine cf_aload_n C dX3_lay_5 rfl 0 rfl ?_
  refine cf_iload_n C dX3_lay_6 rfl 2 rfl ?_
  refine pf_3_1 C inX3 ho q265 dX3_lay_7 ?_
  refine cf_nmS hm (fun S2 hm => ?_)
  refine cf_iconst C dX3_lay_10 (v := 0) rfl ?_
  refine cf_istore_n C (L1 := [(3, .int 0), (0, .ref (adr (vG E) o 0)), (1, .int x1), (2, .int x2)]) dX3_lay_11 rfl (by decide) rfl ?_
  refine cf_sub C [1, 0] rfl ?_
  obtain ⟨k, hm⟩ := hm
  exact w_L_X3_lay_12 C ho hR k 0 _ hm

def J_X6_sheet_65    (Q : Int32 → St → Prop) (x1 : Int32) (x2 : Int32) (x3 : Int32) (S : St) : Prop := vp_in x1 4 ∧ (if x2 = 0 then (E_X3_lay (13 + x1.toNatClampNeg) x2 0 S (fun S7 => Q 1 S7)) else (E_X3_lay (13 + x1.toNatClampNeg) x2 x3 S (fun S6 => Q 1 S6)))
set_option maxRecDepth 20000 in
theorem w_J_X6_sheet_65 {E : EV} {Q : Int32 → St → Prop}   (C : CX E cX6_sheet RX6 4 enC 2 42)   (hR : RTi E cX6_sheet Q) : ∀ (x1 : Int32) (x2 : Int32) (x3 : Int32) (S : St), J_X6_sheet_65 Q x1 x2 x3 S → CF E S 65 [(0, .ref (adr (vG E) 0 0)), (1, .int x1), (2, .int x2), (3, .int x3)] [] := by
  intro x1 x2 x3 S hm
  unfold J_X6_sheet_65 at hm
  refine cf_aload_n C dX6_sheet_65 rfl 0 rfl ?_
  refine gf_6_6 C inX6 okC_0 q282 dX6_sheet_66 ?_
  refine cf_iload_n C dX6_sheet_69 rfl 1 rfl ?_
  have hs5 := vp_lt hm.1
  refine cf_aald C dX6_sheet_70 hm (fun hm => ?_)
  refine cf_iload_n C dX6_sheet_71 rfl 2 rfl ?_
  refine cf_iload_n C dX6_sheet_72 rfl 2 rfl ?_
  refine cf_if_ne C (tgt := 80) dX6_sheet_73 (by decide) hm (fun hm => ?_) (fun hm => ?_)
  · refine cf_iload_n C dX6_sheet_80 rfl 3 rfl ?_
    refine cf_callVv C [.int x2, .int x3] [] (okC_sheet hs5).1 (ocell_3 (okC_sheet hs5).2.1) rfl q629 q630 (c_X3_lay (vL E) (vG E) (13 + x1.toNatClampNeg) x2 x3 _ _ (okC_sheet hs5) hm) q628 q631 q71 md_X3_lay (Nat.le_of_ble_eq_true rfl) (Nat.le_of_ble_eq_true rfl) rfl rfl (Nat.le_of_ble_eq_true rfl) dX6_sheet_81 (fun S6 hm => ?_)
    refine cf_iconst C dX6_sheet_84 (v := 1) rfl ?_
    exact hR _ _ _ _ dX6_sheet_85 hm
  · refine cf_iconst C dX6_sheet_76 (v := 0) rfl ?_
    refine cf_goto C (tgt := 81) dX6_sheet_77 (by decide) ?_
    refine cf_callVv C [.int x2, .int 0] [] (okC_sheet hs5).1 (ocell_3 (okC_sheet hs5).2.1) rfl q629 q630 (c_X3_lay (vL E) (vG E) (13 + x1.toNatClampNeg) x2 0 _ _ (okC_sheet hs5) hm) q628 q631 q71 md_X3_lay (Nat.le_of_ble_eq_true rfl) (Nat.le_of_ble_eq_true rfl) rfl rfl (Nat.le_of_ble_eq_true rfl) dX6_sheet_81 (fun S7 hm => ?_)
    refine cf_iconst C dX6_sheet_84 (v := 1) rfl ?_
    exact hR _ _ _ _ dX6_sheet_85 hm
def J_X6_sheet_35    (Q : Int32 → St → Prop) (x1 : Int32) (x2 : Int32) (x3 : Int32) (S : St) : Prop := if x2 = 0 then (if x2 = 0 then (J_X6_sheet_65 Q x1 x2 x3 S) else (if x3 ≤ 24 then (J_X6_sheet_65 Q x1 x2 x3 S) else (E_X6_wrong 1 S (fun v9 S8 => Q v9 S8)))) else (if 0 ≤ x3 then (if x2 = 0 then (J_X6_sheet_65 Q x1 x2 x3 S) else (if x3 ≤ 24 then (J_X6_sheet_65 Q x1 x2 x3 S) else (E_X6_wrong 1 S (fun v11 S10 => Q v11 S10)))) else (E_X6_wrong 3 S (fun v13 S12 => Q v13 S12)))
set_option maxRecDepth 20000 in
theorem w_J_X6_sheet_35 {E : EV} {Q : Int32 → St → Prop}   (C : CX E cX6_sheet RX6 4 enC 2 42)   (hR : RTi E cX6_sheet Q) : ∀ (x1 : Int32) (x2 : Int32) (x3 : Int32) (S : St), J_X6_sheet_35 Q x1 x2 x3 S → CF E S 35 [(0, .ref (adr (vG E) 0 0)), (1, .int x1), (2, .int x2), (3, .int x3)] [] := by
  intro x1 x2 x3 S hm
  unfold J_X6_sheet_35 at hm
  refine cf_iload_n C dX6_sheet_35 rfl 2 rfl ?_
  refine cf_if_eq C (tgt := 49) dX6_sheet_36 (by decide) hm (fun hm => ?_) (fun hm => ?_)
  · refine cf_iload_n C dX6_sheet_49 rfl 2 rfl ?_
    refine cf_if_eq C (tgt := 65) dX6_sheet_50 (by decide) hm (fun hm => ?_) (fun hm => ?_)
    · exact w_J_X6_sheet_65 C hR x1 x2 x3 _ hm
    · refine cf_iload_n C dX6_sheet_53 rfl 3 rfl ?_
      refine cf_bipush C dX6_sheet_54 (v := 24) rfl ?_
      refine cf_icmp_le C (tgt := 65) dX6_sheet_56 (by decide) hm (fun hm => ?_) (fun hm => ?_)
      · exact w_J_X6_sheet_65 C hR x1 x2 x3 _ hm
      · refine cf_aload_n C dX6_sheet_59 rfl 0 rfl ?_
        refine cf_iconst C dX6_sheet_60 (v := 1) rfl ?_
        refine cf_callVi C [.int 1] [] okC_0.1 (ocell_6 okC_0.2.1) rfl q316 q0 (c_X6_wrong (vL E) (vG E) 1 _ _  hm) q314 q317 q65 md_X6_wrong (Nat.le_of_ble_eq_true rfl) (Nat.le_of_ble_eq_true rfl) rfl rfl (Nat.le_of_ble_eq_true rfl) dX6_sheet_61 (fun v9 S8 hm => ?_)
        exact hR _ _ _ _ dX6_sheet_64 hm
  · refine cf_iload_n C dX6_sheet_39 rfl 3 rfl ?_
    refine cf_if_ge C (tgt := 49) dX6_sheet_40 (by decide) hm (fun hm => ?_) (fun hm => ?_)
    · refine cf_iload_n C dX6_sheet_49 rfl 2 rfl ?_
      refine cf_if_eq C (tgt := 65) dX6_sheet_50 (by decide) hm (fun hm => ?_) (fun hm => ?_)
      · exact w_J_X6_sheet_65 C hR x1 x2 x3 _ hm
      · refine cf_iload_n C dX6_sheet_53 rfl 3 rfl ?_
        refine cf_bipush C dX6_sheet_54 (v := 24) rfl ?_
        refine cf_icmp_le C (tgt := 65) dX6_sheet_56 (by decide) hm (fun hm => ?_) (fun hm => ?_)
        · exact w_J_X6_sheet_65 C hR x1 x2 x3 _ hm
        · refine cf_aload_n C dX6_sheet_59 rfl 0 rfl ?_
          refine cf_iconst C dX6_sheet_60 (v := 1) rfl ?_
          refine cf_callVi C [.int 1] [] okC_0.1 (ocell_6 okC_0.2.1) rfl q316 q0 (c_X6_wrong (vL E) (vG E) 1 _ _  hm) q314 q317 q65 md_X6_wrong (Nat.le_of_ble_eq_true rfl) (Nat.le_of_ble_eq_true rfl) rfl rfl (Nat.le_of_ble_eq_true rfl) dX6_sheet_61 (fun v11 S10 hm => ?_)
          exact hR _ _ _ _ dX6_sheet_64 hm
    · refine cf_aload_n C dX6_sheet_43 rfl 0 rfl ?_
      refine cf_iconst C dX6_sheet_44 (v := 3) rfl ?_
      refine cf_callVi C [.int 3] [] okC_0.1 (ocell_6 okC_0.2.1) rfl q316 q0 (c_X6_wrong (vL E) (vG E) 3 _ _  hm) q314 q317 q65 md_X6_wrong (Nat.le_of_ble_eq_true rfl) (Nat.le_of_ble_eq_true rfl) rfl rfl (Nat.le_of_ble_eq_true rfl) dX6_sheet_45 (fun v13 S12 hm => ?_)
      exact hR _ _ _ _ dX6_sheet_48 hm
def E_X6_sheet (x1 : Int32) (x2 : Int32) (x3 : Int32) (S : St) (Q : Int32 → St → Prop) : Prop := E_X6_isSheet x1 S (fun v2 S1 => if v2 = 0 then (E_X6_wrong 1 S1 (fun v4 S3 => Q v4 S3)) else (if x2 = 0 then (J_X6_sheet_35 Q x1 x2 x3 S1) else (if x2 = 8 then (J_X6_sheet_35 Q x1 x2 x3 S1) else (if x2 = 16 then (J_X6_sheet_35 Q x1 x2 x3 S1) else (if x2 = 32 then (J_X6_sheet_35 Q x1 x2 x3 S1) else (E_X6_wrong 1 S1 (fun v15 S14 => Q v15 S14)))))))
set_option maxRecDepth 20000 in
theorem c_X6_sheet (l : Launch) (G : GX) (x1 : Int32) (x2 : Int32) (x3 : Int32) (S : St) (Q : Int32 → St → Prop)  (hm : E_X6_sheet x1 x2 x3 S Q) : CTi l yX6_sheet (Cond.code yX6_sheet cX6_sheet 4 (some .int) :: AW) { frames := 2, cells := 0, slots := 0, locals := 42 } G enC [.ref (adr G 0 0), .int x1, .int x2, .int x3] S Q := by
  refine ct_start_i (by decide) enC_nd (Nat.le_of_ble_eq_true rfl) (fun E hG hl C hR => ?_)
  subst hG
  subst hl
  show CF E S 0 [(0, .ref (adr (vG E) 0 0)), (1, .int x1), (2, .int x2), (3, .int x3)] []
  unfold E_X6_sheet at hm
  refine cf_iload_n C dX6_sheet_0 rfl 1 rfl ?_
  refine cf_callSi C [.int x1] [] q580 (c_X6_isSheet (vL E) (vG E) x1 _ _  hm) q579 q581 q65 md_X6_isSheet (Nat.le_of_ble_eq_true rfl) (Nat.le_of_ble_eq_true rfl) rfl rfl (Nat.le_of_ble_eq_true rfl) dX6_sheet_1 (fun v2 S1 hm => ?_)
  refine cf_if_eq C (tgt := 29) dX6_sheet_4 (by decide) hm (fun hm => ?_) (fun hm => ?_)
  · refine cf_aload_n C dX6_sheet_29 rfl 0 rfl ?_
    refine cf_iconst C dX6_sheet_30 (v := 1) rfl ?_
    refine cf_callVi C [.int 1] [] okC_0.1 (ocell_6 okC_0.2.1) rfl q316 q0 (c_X6_wrong (vL E) (vG E) 1 _ _  hm) q314 q317 q65 md_X6_wrong (Nat.le_of_ble_eq_true rfl) (Nat.le_of_ble_eq_true rfl) rfl rfl (Nat.le_of_ble_eq_true rfl) dX6_sheet_31 (fun v4 S3 hm => ?_)
    exact hR _ _ _ _ dX6_sheet_34 hm
  · refine cf_iload_n C dX6_sheet_7 rfl 2 rfl ?_
    refine cf_if_eq C (tgt := 35) dX6_sheet_8 (by decide) hm (fun hm => ?_) (fun hm => ?_)
    · exact w_J_X6_sheet_35 C hR x1 x2 x3 _ hm
    · refine cf_iload_n C dX6_sheet_11 rfl 2 rfl ?_
      refine cf_bipush C dX6_sheet_12 (v := 8) rfl ?_
      refine cf_icmp_eq C (tgt := 35) dX6_sheet_14 (by decide) hm (fun hm => ?_) (fun hm => ?_)
      · exact w_J_X6_sheet_35 C hR x1 x2 x3 _ hm
      · refine cf_iload_n C dX6_sheet_17 rfl 2 rfl ?_
        refine cf_bipush C dX6_sheet_18 (v := 16) rfl ?_
        refine cf_icmp_eq C (tgt := 35) dX6_sheet_20 (by decide) hm (fun hm => ?_) (fun hm => ?_)
        · exact w_J_X6_sheet_35 C hR x1 x2 x3 _ hm
        · refine cf_iload_n C dX6_sheet_23 rfl 2 rfl ?_
          refine cf_bipush C dX6_sheet_24 (v := 32) rfl ?_
          refine cf_icmp_eq C (tgt := 35) dX6_sheet_26 (by decide) hm (fun hm => ?_) (fun hm => ?_)
          · exact w_J_X6_sheet_35 C hR x1 x2 x3 _ hm
          · refine cf_aload_n C dX6_sheet_29 rfl 0 rfl ?_
            refine cf_iconst C dX6_sheet_30 (v := 1) rfl ?_
            refine cf_callVi C [.int 1] [] okC_0.1 (ocell_6 okC_0.2.1) rfl q316 q0 (c_X6_wrong (vL E) (vG E) 1 _ _  hm) q314 q317 q65 md_X6_wrong (Nat.le_of_ble_eq_true rfl) (Nat.le_of_ble_eq_true rfl) rfl rfl (Nat.le_of_ble_eq_true rfl) dX6_sheet_31 (fun v15 S14 hm => ?_)
            exact hR _ _ _ _ dX6_sheet_34 hm

def E_X3_write (o : Nat) (x1 : Int32) (x2 : Int32) (S : St) (Q : St → Prop) : Prop := if (S.1 o 0) = 8 then (vp_in x1 24 ∧ (nmS (stR S o 2 (upd (S.2 o 2) x1.toNatClampNeg (x2.toInt8.toInt32))) (fun S3 => Q S3))) else (if (S.1 o 0) = 16 then (vp_in x1 24 ∧ (nmS (stR S o 2 (upd (S.2 o 2) x1.toNatClampNeg (x2.toInt16.toInt32))) (fun S2 => Q S2))) else (vp_in x1 24 ∧ (nmS (stR S o 2 (upd (S.2 o 2) x1.toNatClampNeg x2)) (fun S1 => Q S1))))
set_option maxRecDepth 20000 in
theorem c_X3_write (l : Launch) (G : GX) (o : Nat) (x1 : Int32) (x2 : Int32) (S : St) (Q : St → Prop) (ho : okO enC o 3) (hm : E_X3_write o x1 x2 S Q) : CTv l yX3_write (Cond.code yX3_write cX3_write 3 none :: AW) { frames := 0, cells := 0, slots := 0, locals := 0 } G enC [.ref (adr G o 0), .int x1, .int x2] S Q := by
  refine ct_start_v (by decide) enC_nd (Nat.le_of_ble_eq_true rfl) (fun E hG hl C hR => ?_)
  subst hG
  subst hl
  show CF E S 0 [(0, .ref (adr (vG E) o 0)), (1, .int x1), (2, .int x2)] []
  unfold E_X3_write at hm
  refine cf_aload_n C dX3_write_0 rfl 0 rfl ?_
  refine gf_3_2 C inX3 ho q267 dX3_write_1 ?_
  refine cf_iload_n C dX3_write_4 rfl 1 rfl ?_
  refine cf_aload_n C dX3_write_5 rfl 0 rfl ?_
  refine gf_3_0 C inX3 ho q263 dX3_write_6 ?_
  refine cf_bipush C dX3_write_9 (v := 8) rfl ?_
  refine cf_icmp_ne C (tgt := 19) dX3_write_11 (by decide) hm (fun hm => ?_) (fun hm => ?_)
  · refine cf_aload_n C dX3_write_19 rfl 0 rfl ?_
    refine gf_3_0 C inX3 ho q263 dX3_write_20 ?_
    refine cf_bipush C dX3_write_23 (v := 16) rfl ?_
    refine cf_icmp_ne C (tgt := 33) dX3_write_25 (by decide) hm (fun hm => ?_) (fun hm => ?_)
    · refine cf_iload_n C dX3_write_33 rfl 2 rfl ?_
      refine cf_iast C (okA_of 2 ho rfl (by decide) (by decide) (by decide)) dX3_write_34 hm (fun hm => ?_)
      refine cf_nmS hm (fun S1 hm => ?_)
      exact hR _ _ _ dX3_write_35 hm
    · refine cf_iload_n C dX3_write_28 rfl 2 rfl ?_
      refine cf_i2s C dX3_write_29 ?_
      refine cf_goto C (tgt := 34) dX3_write_30 (by decide) ?_
      refine cf_iast C (okA_of 2 ho rfl (by decide) (by decide) (by decide)) dX3_write_34 hm (fun hm => ?_)
      refine cf_nmS hm (fun S2 hm => ?_)
      exact hR _ _ _ dX3_write_35 hm
  · refine cf_iload_n C dX3_write_14 rfl 2 rfl ?_
    refine cf_i2b C dX3_write_15 ?_
    refine cf_goto C (tgt := 34) dX3_write_16 (by decide) ?_
    refine cf_iast C (okA_of 2 ho rfl (by decide) (by decide) (by decide)) dX3_write_34 hm (fun hm => ?_)
    refine cf_nmS hm (fun S3 hm => ?_)
    exact hR _ _ _ dX3_write_35 hm

def E_X6_put (x1 : Int32) (x2 : Int32) (x3 : Int32) (S : St) (Q : Int32 → St → Prop) : Prop := E_X6_isSheet x1 S (fun v2 S1 => if v2 = 0 then (E_X6_wrong 1 S1 (fun v14 S13 => Q v14 S13)) else (vp_in x1 4 ∧ (E_X3_isMissing (13 + x1.toNatClampNeg) S1 (fun v5 S4 => if v5 = 0 then (E_X6_within x2 0 ((S4.1 (13 + x1.toNatClampNeg) 1) - 1) S4 (fun v7 S6 => if v7 = 0 then (E_X6_wrong 1 S6 (fun v10 S9 => Q v10 S9)) else (E_X3_write (13 + x1.toNatClampNeg) x2 x3 S6 (fun S8 => Q 1 S8)))) else (E_X6_wrong 2 S4 (fun v12 S11 => Q v12 S11))))))
set_option maxRecDepth 20000 in
theorem c_X6_put (l : Launch) (G : GX) (x1 : Int32) (x2 : Int32) (x3 : Int32) (S : St) (Q : Int32 → St → Prop)  (hm : E_X6_put x1 x2 x3 S Q) : CTi l yX6_put (Cond.code yX6_put cX6_put 5 (some .int) :: AW) { frames := 2, cells := 0, slots := 0, locals := 42 } G enC [.ref (adr G 0 0), .int x1, .int x2, .int x3] S Q := by
  refine ct_start_i (by decide) enC_nd (Nat.le_of_ble_eq_true rfl) (fun E hG hl C hR => ?_)
  subst hG
  subst hl
  show CF E S 0 [(0, .ref (adr (vG E) 0 0)), (1, .int x1), (2, .int x2), (3, .int x3)] []
  unfold E_X6_put at hm
  refine cf_iload_n C dX6_put_0 rfl 1 rfl ?_
  refine cf_callSi C [.int x1] [] q580 (c_X6_isSheet (vL E) (vG E) x1 _ _  hm) q579 q581 q65 md_X6_isSheet (Nat.le_of_ble_eq_true rfl) (Nat.le_of_ble_eq_true rfl) rfl rfl (Nat.le_of_ble_eq_true rfl) dX6_put_1 (fun v2 S1 hm => ?_)
  refine cf_if_ne C (tgt := 13) dX6_put_4 (by decide) hm (fun hm => ?_) (fun hm => ?_)
  · refine cf_aload_n C dX6_put_13 rfl 0 rfl ?_
    refine gf_6_6 C inX6 okC_0 q282 dX6_put_14 ?_
    refine cf_iload_n C dX6_put_17 rfl 1 rfl ?_
    have hs3 := vp_lt hm.1
    refine cf_aald C dX6_put_18 hm (fun hm => ?_)
    refine cf_astore C (L1 := [(4, .ref (adr (vG E) (13 + x1.toNatClampNeg) 0)), (0, .ref (adr (vG E) 0 0)), (1, .int x1), (2, .int x2), (3, .int x3)]) dX6_put_19 (by decide) rfl ?_
    refine cf_aload C dX6_put_21 0 rfl ?_
    refine cf_callVi C [] [] (okC_sheet hs3).1 (ocell_3 (okC_sheet hs3).2.1) rfl q583 q584 (c_X3_isMissing (vL E) (vG E) (13 + x1.toNatClampNeg) _ _ (okC_sheet hs3) hm) q582 q585 q71 md_X3_isMissing (Nat.le_of_ble_eq_true rfl) (Nat.le_of_ble_eq_true rfl) rfl rfl (Nat.le_of_ble_eq_true rfl) dX6_put_23 (fun v5 S4 hm => ?_)
    refine cf_if_eq C (tgt := 35) dX6_put_26 (by decide) hm (fun hm => ?_) (fun hm => ?_)
    · refine cf_iload_n C dX6_put_35 rfl 3 rfl ?_
      refine cf_iconst C dX6_put_36 (v := 0) rfl ?_
      refine cf_aload C dX6_put_37 0 rfl ?_
      refine gf_3_1 C inX3 (okC_sheet hs3) q266 dX6_put_39 ?_
      refine cf_iconst C dX6_put_42 (v := 1) rfl ?_
      refine cf_isub C dX6_put_43 ?_
      refine cf_callSi C [.int x2, .int 0, .int ((S4.1 (13 + x1.toNatClampNeg) 1) - 1)] [] q312 (c_X6_within (vL E) (vG E) x2 0 ((S4.1 (13 + x1.toNatClampNeg) 1) - 1) _ _  hm) q311 q313 q65 md_X6_within (Nat.le_of_ble_eq_true rfl) (Nat.le_of_ble_eq_true rfl) rfl rfl (Nat.le_of_ble_eq_true rfl) dX6_put_44 (fun v7 S6 hm => ?_)
      refine cf_if_ne C (tgt := 56) dX6_put_47 (by decide) hm (fun hm => ?_) (fun hm => ?_)
      · refine cf_aload C dX6_put_56 0 rfl ?_
        refine cf_iload_n C dX6_put_58 rfl 3 rfl ?_
        refine cf_iload_n C dX6_put_59 rfl 4 rfl ?_
        refine cf_callVv C [.int x2, .int x3] [] (okC_sheet hs3).1 (ocell_3 (okC_sheet hs3).2.1) rfl q637 q638 (c_X3_write (vL E) (vG E) (13 + x1.toNatClampNeg) x2 x3 _ _ (okC_sheet hs3) hm) q636 q639 q71 md_X3_write (Nat.le_of_ble_eq_true rfl) (Nat.le_of_ble_eq_true rfl) rfl rfl (Nat.le_of_ble_eq_true rfl) dX6_put_60 (fun S8 hm => ?_)
        refine cf_iconst C dX6_put_63 (v := 1) rfl ?_
        exact hR _ _ _ _ dX6_put_64 hm
      · refine cf_aload_n C dX6_put_50 rfl 1 rfl ?_
        refine cf_iconst C dX6_put_51 (v := 1) rfl ?_
        refine cf_callVi C [.int 1] [] okC_0.1 (ocell_6 okC_0.2.1) rfl q316 q0 (c_X6_wrong (vL E) (vG E) 1 _ _  hm) q314 q317 q65 md_X6_wrong (Nat.le_of_ble_eq_true rfl) (Nat.le_of_ble_eq_true rfl) rfl rfl (Nat.le_of_ble_eq_true rfl) dX6_put_52 (fun v10 S9 hm => ?_)
        exact hR _ _ _ _ dX6_put_55 hm
    · refine cf_aload_n C dX6_put_29 rfl 1 rfl ?_
      refine cf_iconst C dX6_put_30 (v := 2) rfl ?_
      refine cf_callVi C [.int 2] [] okC_0.1 (ocell_6 okC_0.2.1) rfl q316 q0 (c_X6_wrong (vL E) (vG E) 2 _ _  hm) q314 q317 q65 md_X6_wrong (Nat.le_of_ble_eq_true rfl) (Nat.le_of_ble_eq_true rfl) rfl rfl (Nat.le_of_ble_eq_true rfl) dX6_put_31 (fun v12 S11 hm => ?_)
      exact hR _ _ _ _ dX6_put_34 hm
  · refine cf_aload_n C dX6_put_7 rfl 0 rfl ?_
    refine cf_iconst C dX6_put_8 (v := 1) rfl ?_
    refine cf_callVi C [.int 1] [] okC_0.1 (ocell_6 okC_0.2.1) rfl q316 q0 (c_X6_wrong (vL E) (vG E) 1 _ _  hm) q314 q317 q65 md_X6_wrong (Nat.le_of_ble_eq_true rfl) (Nat.le_of_ble_eq_true rfl) rfl rfl (Nat.le_of_ble_eq_true rfl) dX6_put_9 (fun v14 S13 hm => ?_)
    exact hR _ _ _ _ dX6_put_12 hm

def E_X3_holds (o : Nat) (x1 : Int32) (x2 : Int32) (S : St) (Q : Int32 → St → Prop) : Prop := if x2 < 0 then (Q 0 S) else (if x1 < 0 then (Q 0 S) else (if (S.1 o 1) < x1 then (Q 0 S) else (if ((S.1 o 1) - x1) < x2 then (Q 0 S) else (Q 1 S))))
set_option maxRecDepth 20000 in
theorem c_X3_holds (l : Launch) (G : GX) (o : Nat) (x1 : Int32) (x2 : Int32) (S : St) (Q : Int32 → St → Prop) (ho : okO enC o 3) (hm : E_X3_holds o x1 x2 S Q) : CTi l yX3_holds (Cond.code yX3_holds cX3_holds 3 (some .boolean) :: AW) { frames := 0, cells := 0, slots := 0, locals := 0 } G enC [.ref (adr G o 0), .int x1, .int x2] S Q := by
  refine ct_start_z (by decide) enC_nd (Nat.le_of_ble_eq_true rfl) (fun E hG hl C hR => ?_)
  subst hG
  subst hl
  show CF E S 0 [(0, .ref (adr (vG E) o 0)), (1, .int x1), (2, .int x2)] []
  unfold E_X3_holds at hm
  refine cf_iload_n C dX3_holds_0 rfl 2 rfl ?_
  refine cf_if_lt C (tgt := 30) dX3_holds_1 (by decide) hm (fun hm => ?_) (fun hm => ?_)
  · refine cf_iconst C dX3_holds_30 (v := 0) rfl ?_
    exact hR _ _ _ _ dX3_holds_31 (Or.inl rfl) hm
  · refine cf_iload_n C dX3_holds_4 rfl 1 rfl ?_
    refine cf_if_lt C (tgt := 30) dX3_holds_5 (by decide) hm (fun hm => ?_) (fun hm => ?_)
    · refine cf_iconst C dX3_holds_30 (v := 0) rfl ?_
      exact hR _ _ _ _ dX3_holds_31 (Or.inl rfl) hm
    · refine cf_iload_n C dX3_holds_8 rfl 1 rfl ?_
      refine cf_aload_n C dX3_holds_9 rfl 0 rfl ?_
      refine gf_3_1 C inX3 ho q265 dX3_holds_10 ?_
      refine cf_icmp_gt C (tgt := 30) dX3_holds_13 (by decide) hm (fun hm => ?_) (fun hm => ?_)
      · refine cf_iconst C dX3_holds_30 (v := 0) rfl ?_
        exact hR _ _ _ _ dX3_holds_31 (Or.inl rfl) hm
      · refine cf_iload_n C dX3_holds_16 rfl 2 rfl ?_
        refine cf_aload_n C dX3_holds_17 rfl 0 rfl ?_
        refine gf_3_1 C inX3 ho q265 dX3_holds_18 ?_
        refine cf_iload_n C dX3_holds_21 rfl 1 rfl ?_
        refine cf_isub C dX3_holds_22 ?_
        refine cf_icmp_gt C (tgt := 30) dX3_holds_23 (by decide) hm (fun hm => ?_) (fun hm => ?_)
        · refine cf_iconst C dX3_holds_30 (v := 0) rfl ?_
          exact hR _ _ _ _ dX3_holds_31 (Or.inl rfl) hm
        · refine cf_iconst C dX3_holds_26 (v := 1) rfl ?_
          refine cf_goto C (tgt := 31) dX3_holds_27 (by decide) ?_
          exact hR _ _ _ _ dX3_holds_31 (Or.inr rfl) hm

def E_X6_move (x1 : Int32) (x2 : Int32) (x3 : Int32) (x4 : Int32) (x5 : Int32) (S : St) (Q : Int32 → St → Prop) : Prop := E_X6_isSheet x1 S (fun v2 S1 => if v2 = 0 then (E_X6_wrong 1 S1 (fun v4 S3 => Q v4 S3)) else (E_X6_isSheet x3 S1 (fun v6 S5 => if v6 = 0 then (E_X6_wrong 1 S5 (fun v29 S28 => Q v29 S28)) else (vp_in x1 4 ∧ (vp_in x3 4 ∧ (E_X3_isMissing (13 + x1.toNatClampNeg) S5 (fun v10 S9 => if v10 = 0 then (E_X3_isMissing (13 + x3.toNatClampNeg) S9 (fun v14 S13 => if v14 = 0 then (if (S13.1 (13 + x1.toNatClampNeg) 0) = (S13.1 (13 + x3.toNatClampNeg) 0) then (E_X3_holds (13 + x1.toNatClampNeg) x2 x5 S13 (fun v16 S15 => if v16 = 0 then (E_X6_wrong 1 S15 (fun v18 S17 => Q v18 S17)) else (E_X3_holds (13 + x3.toNatClampNeg) x4 x5 S15 (fun v20 S19 => if v20 = 0 then (E_X6_wrong 1 S19 (fun v23 S22 => Q v23 S22)) else ((¬ x2 < 0 ∧ ¬ x4 < 0 ∧ ¬ x5 < 0 ∧ x2.toNatClampNeg + x5.toNatClampNeg ≤ 24 ∧ x4.toNatClampNeg + x5.toNatClampNeg ≤ 24) ∧ (nmS (stR S19 (13 + x3.toNatClampNeg) 2 (va_cpy (S19.2 (13 + x1.toNatClampNeg) 2) (S19.2 (13 + x3.toNatClampNeg) 2) x2.toNatClampNeg x4.toNatClampNeg x5.toNatClampNeg)) (fun S21 => Q x5 S21))))))) else (E_X6_wrong 5 S13 (fun v25 S24 => Q v25 S24))) else (E_X6_wrong 2 S13 (fun v27 S26 => Q v27 S26)))) else (E_X6_wrong 2 S9 (fun v12 S11 => Q v12 S11)))))))))
set_option maxRecDepth 20000 in
theorem c_X6_move (l : Launch) (G : GX) (x1 : Int32) (x2 : Int32) (x3 : Int32) (x4 : Int32) (x5 : Int32) (S : St) (Q : Int32 → St → Prop)  (hm : E_X6_move x1 x2 x3 x4 x5 S Q) : CTi l yX6_move (Cond.code yX6_move cX6_move 8 (some .int) :: AW) { frames := 2, cells := 0, slots := 0, locals := 72 } G enC [.ref (adr G 0 0), .int x1, .int x2, .int x3, .int x4, .int x5] S Q := by
  refine ct_start_i (by decide) enC_nd (Nat.le_of_ble_eq_true rfl) (fun E hG hl C hR => ?_)
  subst hG
  subst hl
  show CF E S 0 [(0, .ref (adr (vG E) 0 0)), (1, .int x1), (2, .int x2), (3, .int x3), (4, .int x4), (5, .int x5)] []
  unfold E_X6_move at hm
  refine cf_iload_n C dX6_move_0 rfl 1 rfl ?_
  refine cf_callSi C [.int x1] [] q580 (c_X6_isSheet (vL E) (vG E) x1 _ _  hm) q579 q581 q65 md_X6_isSheet (Nat.le_of_ble_eq_true rfl) (Nat.le_of_ble_eq_true rfl) rfl rfl (Nat.le_of_ble_eq_true rfl) dX6_move_1 (fun v2 S1 hm => ?_)
  refine cf_if_eq C (tgt := 14) dX6_move_4 (by decide) hm (fun hm => ?_) (fun hm => ?_)
  · refine cf_aload_n C dX6_move_14 rfl 0 rfl ?_
    refine cf_iconst C dX6_move_15 (v := 1) rfl ?_
    refine cf_callVi C [.int 1] [] okC_0.1 (ocell_6 okC_0.2.1) rfl q316 q0 (c_X6_wrong (vL E) (vG E) 1 _ _  hm) q314 q317 q65 md_X6_wrong (Nat.le_of_ble_eq_true rfl) (Nat.le_of_ble_eq_true rfl) rfl rfl (Nat.le_of_ble_eq_true rfl) dX6_move_16 (fun v4 S3 hm => ?_)
    exact hR _ _ _ _ dX6_move_19 hm
  · refine cf_iload_n C dX6_move_7 rfl 3 rfl ?_
    refine cf_callSi C [.int x3] [] q580 (c_X6_isSheet (vL E) (vG E) x3 _ _  hm) q579 q581 q65 md_X6_isSheet (Nat.le_of_ble_eq_true rfl) (Nat.le_of_ble_eq_true rfl) rfl rfl (Nat.le_of_ble_eq_true rfl) dX6_move_8 (fun v6 S5 hm => ?_)
    refine cf_if_ne C (tgt := 20) dX6_move_11 (by decide) hm (fun hm => ?_) (fun hm => ?_)
    · refine cf_aload_n C dX6_move_20 rfl 0 rfl ?_
      refine gf_6_6 C inX6 okC_0 q282 dX6_move_21 ?_
      refine cf_iload_n C dX6_move_24 rfl 1 rfl ?_
      have hs7 := vp_lt hm.1
      refine cf_aald C dX6_move_25 hm (fun hm => ?_)
      refine cf_astore C (L1 := [(6, .ref (adr (vG E) (13 + x1.toNatClampNeg) 0)), (0, .ref (adr (vG E) 0 0)), (1, .int x1), (2, .int x2), (3, .int x3), (4, .int x4), (5, .int x5)]) dX6_move_26 (by decide) rfl ?_
      refine cf_aload_n C dX6_move_28 rfl 1 rfl ?_
      refine gf_6_6 C inX6 okC_0 q282 dX6_move_29 ?_
      refine cf_iload_n C dX6_move_32 rfl 4 rfl ?_
      have hs8 := vp_lt hm.1
      refine cf_aald C dX6_move_33 hm (fun hm => ?_)
      refine cf_astore C (L1 := [(7, .ref (adr (vG E) (13 + x3.toNatClampNeg) 0)), (6, .ref (adr (vG E) (13 + x1.toNatClampNeg) 0)), (0, .ref (adr (vG E) 0 0)), (1, .int x1), (2, .int x2), (3, .int x3), (4, .int x4), (5, .int x5)]) dX6_move_34 (by decide) rfl ?_
      refine cf_aload C dX6_move_36 1 rfl ?_
      refine cf_callVi C [] [] (okC_sheet hs7).1 (ocell_3 (okC_sheet hs7).2.1) rfl q583 q584 (c_X3_isMissing (vL E) (vG E) (13 + x1.toNatClampNeg) _ _ (okC_sheet hs7) hm) q582 q585 q71 md_X3_isMissing (Nat.le_of_ble_eq_true rfl) (Nat.le_of_ble_eq_true rfl) rfl rfl (Nat.le_of_ble_eq_true rfl) dX6_move_38 (fun v10 S9 hm => ?_)
      refine cf_if_ne C (tgt := 52) dX6_move_41 (by decide) hm (fun hm => ?_) (fun hm => ?_)
      · refine cf_aload_n C dX6_move_52 rfl 2 rfl ?_
        refine cf_iconst C dX6_move_53 (v := 2) rfl ?_
        refine cf_callVi C [.int 2] [] okC_0.1 (ocell_6 okC_0.2.1) rfl q316 q0 (c_X6_wrong (vL E) (vG E) 2 _ _  hm) q314 q317 q65 md_X6_wrong (Nat.le_of_ble_eq_true rfl) (Nat.le_of_ble_eq_true rfl) rfl rfl (Nat.le_of_ble_eq_true rfl) dX6_move_54 (fun v12 S11 hm => ?_)
        exact hR _ _ _ _ dX6_move_57 hm
      · refine cf_aload C dX6_move_44 0 rfl ?_
        refine cf_callVi C [] [] (okC_sheet hs8).1 (ocell_3 (okC_sheet hs8).2.1) rfl q583 q584 (c_X3_isMissing (vL E) (vG E) (13 + x3.toNatClampNeg) _ _ (okC_sheet hs8) hm) q582 q585 q71 md_X3_isMissing (Nat.le_of_ble_eq_true rfl) (Nat.le_of_ble_eq_true rfl) rfl rfl (Nat.le_of_ble_eq_true rfl) dX6_move_46 (fun v14 S13 hm => ?_)
        refine cf_if_eq C (tgt := 58) dX6_move_49 (by decide) hm (fun hm => ?_) (fun hm => ?_)
        · refine cf_aload C dX6_move_58 1 rfl ?_
          refine gf_3_0 C inX3 (okC_sheet hs7) q264 dX6_move_60 ?_
          refine cf_aload C dX6_move_63 0 rfl ?_
          refine gf_3_0 C inX3 (okC_sheet hs8) q264 dX6_move_65 ?_
          refine cf_icmp_eq C (tgt := 77) dX6_move_68 (by decide) hm (fun hm => ?_) (fun hm => ?_)
          · refine cf_aload C dX6_move_77 1 rfl ?_
            refine cf_iload_n C dX6_move_79 rfl 4 rfl ?_
            refine cf_iload C dX6_move_80 7 rfl ?_
            refine cf_callVi C [.int x2, .int x5] [] (okC_sheet hs7).1 (ocell_3 (okC_sheet hs7).2.1) rfl q645 q646 (c_X3_holds (vL E) (vG E) (13 + x1.toNatClampNeg) x2 x5 _ _ (okC_sheet hs7) hm) q644 q647 q71 md_X3_holds (Nat.le_of_ble_eq_true rfl) (Nat.le_of_ble_eq_true rfl) rfl rfl (Nat.le_of_ble_eq_true rfl) dX6_move_82 (fun v16 S15 hm => ?_)
            refine cf_if_eq C (tgt := 100) dX6_move_85 (by decide) hm (fun hm => ?_) (fun hm => ?_)
            · refine cf_aload_n C dX6_move_100 rfl 2 rfl ?_
              refine cf_iconst C dX6_move_101 (v := 1) rfl ?_
              refine cf_callVi C [.int 1] [] okC_0.1 (ocell_6 okC_0.2.1) rfl q316 q0 (c_X6_wrong (vL E) (vG E) 1 _ _  hm) q314 q317 q65 md_X6_wrong (Nat.le_of_ble_eq_true rfl) (Nat.le_of_ble_eq_true rfl) rfl rfl (Nat.le_of_ble_eq_true rfl) dX6_move_102 (fun v18 S17 hm => ?_)
              exact hR _ _ _ _ dX6_move_105 hm
            · refine cf_aload C dX6_move_88 0 rfl ?_
              refine cf_iload C dX6_move_90 6 rfl ?_
              refine cf_iload C dX6_move_92 7 rfl ?_
              refine cf_callVi C [.int x4, .int x5] [] (okC_sheet hs8).1 (ocell_3 (okC_sheet hs8).2.1) rfl q645 q646 (c_X3_holds (vL E) (vG E) (13 + x3.toNatClampNeg) x4 x5 _ _ (okC_sheet hs8) hm) q644 q647 q71 md_X3_holds (Nat.le_of_ble_eq_true rfl) (Nat.le_of_ble_eq_true rfl) rfl rfl (Nat.le_of_ble_eq_true rfl) dX6_move_94 (fun v20 S19 hm => ?_)
              refine cf_if_ne C (tgt := 106) dX6_move_97 (by decide) hm (fun hm => ?_) (fun hm => ?_)
              · refine cf_aload C dX6_move_106 1 rfl ?_
                refine gf_3_2 C inX3 (okC_sheet hs7) q268 dX6_move_108 ?_
                refine cf_iload_n C dX6_move_111 rfl 4 rfl ?_
                refine cf_aload C dX6_move_112 0 rfl ?_
                refine gf_3_2 C inX3 (okC_sheet hs8) q268 dX6_move_114 ?_
                refine cf_iload C dX6_move_117 6 rfl ?_
                refine cf_iload C dX6_move_119 7 rfl ?_
                refine cf_copy C (okA_of 2 (okC_sheet hs7) rfl (by decide) (by decide) (by decide)) (okA_of 2 (okC_sheet hs8) rfl (by decide) (by decide) (by decide)) q648 q414 q413 q74 (Nat.le_of_ble_eq_true rfl) (Nat.le_of_ble_eq_true rfl) (Nat.le_of_ble_eq_true rfl) dX6_move_121 hm (fun hm => ?_)
                refine cf_nmS hm (fun S21 hm => ?_)
                refine cf_iload C dX6_move_124 7 rfl ?_
                exact hR _ _ _ _ dX6_move_126 hm
              · refine cf_aload_n C dX6_move_100 rfl 2 rfl ?_
                refine cf_iconst C dX6_move_101 (v := 1) rfl ?_
                refine cf_callVi C [.int 1] [] okC_0.1 (ocell_6 okC_0.2.1) rfl q316 q0 (c_X6_wrong (vL E) (vG E) 1 _ _  hm) q314 q317 q65 md_X6_wrong (Nat.le_of_ble_eq_true rfl) (Nat.le_of_ble_eq_true rfl) rfl rfl (Nat.le_of_ble_eq_true rfl) dX6_move_102 (fun v23 S22 hm => ?_)
                exact hR _ _ _ _ dX6_move_105 hm
          · refine cf_aload_n C dX6_move_71 rfl 2 rfl ?_
            refine cf_iconst C dX6_move_72 (v := 5) rfl ?_
            refine cf_callVi C [.int 5] [] okC_0.1 (ocell_6 okC_0.2.1) rfl q316 q0 (c_X6_wrong (vL E) (vG E) 5 _ _  hm) q314 q317 q65 md_X6_wrong (Nat.le_of_ble_eq_true rfl) (Nat.le_of_ble_eq_true rfl) rfl rfl (Nat.le_of_ble_eq_true rfl) dX6_move_73 (fun v25 S24 hm => ?_)
            exact hR _ _ _ _ dX6_move_76 hm
        · refine cf_aload_n C dX6_move_52 rfl 2 rfl ?_
          refine cf_iconst C dX6_move_53 (v := 2) rfl ?_
          refine cf_callVi C [.int 2] [] okC_0.1 (ocell_6 okC_0.2.1) rfl q316 q0 (c_X6_wrong (vL E) (vG E) 2 _ _  hm) q314 q317 q65 md_X6_wrong (Nat.le_of_ble_eq_true rfl) (Nat.le_of_ble_eq_true rfl) rfl rfl (Nat.le_of_ble_eq_true rfl) dX6_move_54 (fun v27 S26 hm => ?_)
          exact hR _ _ _ _ dX6_move_57 hm
    · refine cf_aload_n C dX6_move_14 rfl 0 rfl ?_
      refine cf_iconst C dX6_move_15 (v := 1) rfl ?_
      refine cf_callVi C [.int 1] [] okC_0.1 (ocell_6 okC_0.2.1) rfl q316 q0 (c_X6_wrong (vL E) (vG E) 1 _ _  hm) q314 q317 q65 md_X6_wrong (Nat.le_of_ble_eq_true rfl) (Nat.le_of_ble_eq_true rfl) rfl rfl (Nat.le_of_ble_eq_true rfl) dX6_move_16 (fun v29 S28 hm => ?_)
      exact hR _ _ _ _ dX6_move_19 hm

def L_X6_serves_35    (Q : Int32 → St → Prop) : Nat → Nat → Int32 → St → Prop
  | 0 => fun _ _ _ => False
  | n + 1 => fun r2 x3 S => if (S.1 r2 1) ≤ x3 then (Q (S.1 r2 1) S) else (E_X4_has 3 x3 S (fun v7 S6 => if v7 = 0 then (Q x3 S6) else (vp_in x3 24 ∧ (E_X6_within (S6.2 r2 2 x3.toNatClampNeg) 0 99 S6 (fun v9 S8 => if v9 = 0 then (Q x3 S8) else (vp_in x3 24 ∧ (vp_in x3 9 ∧ (nmS (stR S8 3 7 (upd (S8.2 3 7) x3.toNatClampNeg (S8.2 r2 2 x3.toNatClampNeg))) (fun S10 => nmI (x3 + 1) (fun v11 => L_X6_serves_35 Q n r2 v11 S10))))))))))
set_option maxRecDepth 20000 in
theorem w_L_X6_serves_35 {E : EV} {Q : Int32 → St → Prop}   (C : CX E cX6_serves RX6 4 enC 2 42)   (hR : RTi E cX6_serves Q) : ∀ (n : Nat) (r2 : Nat) (x3 : Int32) (S : St), okO enC r2 3 → L_X6_serves_35 Q n r2 x3 S → CF E S 35 [(0, .ref (adr (vG E) 0 0)), (2, .ref (adr (vG E) r2 0)), (3, .int x3)] [] := by
  intro n
  induction n with
  | zero =>
    intro r2 x3 S hr2 hm
    exact hm.elim
  | succ n ih =>
    intro r2 x3 S hr2 hm
    unfold L_X6_serves_35 at hm
    refine cf_iload_n C dX6_serves_35 rfl 2 rfl ?_
    refine cf_aload_n C dX6_serves_36 rfl 1 rfl ?_
    refine gf_3_1 C inX3 hr2 q266 dX6_serves_37 ?_
    refine cf_icmp_ge C (tgt := 92) dX6_serves_40 (by decide) hm (fun hm => ?_) (fun hm => ?_)
    · refine cf_aload_n C dX6_serves_92 rfl 1 rfl ?_
      refine gf_3_1 C inX3 hr2 q266 dX6_serves_93 ?_
      exact hR _ _ _ _ dX6_serves_96 hm
    · refine cf_aload_n C dX6_serves_43 rfl 0 rfl ?_
      refine gf_6_2 C inX6 okC_0 q278 dX6_serves_44 ?_
      refine cf_iload_n C dX6_serves_47 rfl 2 rfl ?_
      refine cf_callVi C [.int x3] [] okC_3.1 (ocell_4 okC_3.2.1) rfl q328 q329 (c_X4_has (vL E) (vG E) 3 x3 _ _ okC_3 hm) q327 q330 q68 md_X4_has (Nat.le_of_ble_eq_true rfl) (Nat.le_of_ble_eq_true rfl) rfl rfl (Nat.le_of_ble_eq_true rfl) dX6_serves_48 (fun v7 S6 hm => ?_)
      refine cf_if_eq C (tgt := 69) dX6_serves_51 (by decide) hm (fun hm => ?_) (fun hm => ?_)
      · refine cf_iload_n C dX6_serves_69 rfl 2 rfl ?_
        exact hR _ _ _ _ dX6_serves_70 hm
      · refine cf_aload_n C dX6_serves_54 rfl 1 rfl ?_
        refine gf_3_2 C inX3 hr2 q268 dX6_serves_55 ?_
        refine cf_iload_n C dX6_serves_58 rfl 2 rfl ?_
        refine cf_iald C (okA_of 2 hr2 rfl (by decide) (by decide) (by decide)) dX6_serves_59 hm (fun hm => ?_)
        refine cf_iconst C dX6_serves_60 (v := 0) rfl ?_
        refine cf_bipush C dX6_serves_61 (v := 99) rfl ?_
        refine cf_callSi C [.int (S6.2 r2 2 x3.toNatClampNeg), .int 0, .int 99] [] q312 (c_X6_within (vL E) (vG E) (S6.2 r2 2 x3.toNatClampNeg) 0 99 _ _  hm) q311 q313 q65 md_X6_within (Nat.le_of_ble_eq_true rfl) (Nat.le_of_ble_eq_true rfl) rfl rfl (Nat.le_of_ble_eq_true rfl) dX6_serves_63 (fun v9 S8 hm => ?_)
        refine cf_if_ne C (tgt := 71) dX6_serves_66 (by decide) hm (fun hm => ?_) (fun hm => ?_)
        · refine cf_aload_n C dX6_serves_71 rfl 0 rfl ?_
          refine gf_6_2 C inX6 okC_0 q278 dX6_serves_72 ?_
          refine gf_4_7 C inX4 okC_3 q136 dX6_serves_75 ?_
          refine cf_iload_n C dX6_serves_78 rfl 2 rfl ?_
          refine cf_aload_n C dX6_serves_79 rfl 1 rfl ?_
          refine gf_3_2 C inX3 hr2 q268 dX6_serves_80 ?_
          refine cf_iload_n C dX6_serves_83 rfl 2 rfl ?_
          refine cf_iald C (okA_of 2 hr2 rfl (by decide) (by decide) (by decide)) dX6_serves_84 hm (fun hm => ?_)
          refine cf_iast C (okA_of 7 okC_3 rfl (by decide) (by decide) (by decide)) dX6_serves_85 hm (fun hm => ?_)
          refine cf_nmS hm (fun S10 hm => ?_)
          refine cf_iincN C (L1 := fun v11 => [(3, .int v11), (0, .ref (adr (vG E) 0 0)), (2, .ref (adr (vG E) r2 0))]) dX6_serves_86 2 rfl rfl (by decide) (fun _ => rfl) hm (fun v11 hm => ?_)
          refine cf_goto C (tgt := 35) dX6_serves_89 (by decide) ?_
          refine cf_sub C [1, 2, 0] rfl ?_
          exact ih r2 v11 _ hr2 hm
        · refine cf_iload_n C dX6_serves_69 rfl 2 rfl ?_
          exact hR _ _ _ _ dX6_serves_70 hm
def E_X6_serves (x1 : Int32) (S : St) (Q : Int32 → St → Prop) : Prop := E_X6_isSheet x1 S (fun v2 S1 => if v2 = 0 then (E_X6_wrong 1 S1 (fun v15 S14 => Q v15 S14)) else (vp_in x1 4 ∧ (E_X3_isMissing (13 + x1.toNatClampNeg) S1 (fun v5 S4 => if v5 = 0 then (∃ k, L_X6_serves_35 Q k (13 + x1.toNatClampNeg) 0 S4) else (E_X6_wrong 2 S4 (fun v13 S12 => Q v13 S12))))))
set_option maxRecDepth 20000 in
theorem c_X6_serves (l : Launch) (G : GX) (x1 : Int32) (S : St) (Q : Int32 → St → Prop)  (hm : E_X6_serves x1 S Q) : CTi l yX6_serves (Cond.code yX6_serves cX6_serves 4 (some .int) :: AW) { frames := 2, cells := 0, slots := 0, locals := 42 } G enC [.ref (adr G 0 0), .int x1] S Q := by
  refine ct_start_i (by decide) enC_nd (Nat.le_of_ble_eq_true rfl) (fun E hG hl C hR => ?_)
  subst hG
  subst hl
  show CF E S 0 [(0, .ref (adr (vG E) 0 0)), (1, .int x1)] []
  unfold E_X6_serves at hm
  refine cf_iload_n C dX6_serves_0 rfl 1 rfl ?_
  refine cf_callSi C [.int x1] [] q580 (c_X6_isSheet (vL E) (vG E) x1 _ _  hm) q579 q581 q65 md_X6_isSheet (Nat.le_of_ble_eq_true rfl) (Nat.le_of_ble_eq_true rfl) rfl rfl (Nat.le_of_ble_eq_true rfl) dX6_serves_1 (fun v2 S1 hm => ?_)
  refine cf_if_ne C (tgt := 13) dX6_serves_4 (by decide) hm (fun hm => ?_) (fun hm => ?_)
  · refine cf_aload_n C dX6_serves_13 rfl 0 rfl ?_
    refine gf_6_6 C inX6 okC_0 q282 dX6_serves_14 ?_
    refine cf_iload_n C dX6_serves_17 rfl 1 rfl ?_
    have hs3 := vp_lt hm.1
    refine cf_aald C dX6_serves_18 hm (fun hm => ?_)
    refine cf_astore_n C (L1 := [(2, .ref (adr (vG E) (13 + x1.toNatClampNeg) 0)), (0, .ref (adr (vG E) 0 0)), (1, .int x1)]) dX6_serves_19 rfl (by decide) rfl ?_
    refine cf_aload_n C dX6_serves_20 rfl 0 rfl ?_
    refine cf_callVi C [] [] (okC_sheet hs3).1 (ocell_3 (okC_sheet hs3).2.1) rfl q583 q584 (c_X3_isMissing (vL E) (vG E) (13 + x1.toNatClampNeg) _ _ (okC_sheet hs3) hm) q582 q585 q71 md_X3_isMissing (Nat.le_of_ble_eq_true rfl) (Nat.le_of_ble_eq_true rfl) rfl rfl (Nat.le_of_ble_eq_true rfl) dX6_serves_21 (fun v5 S4 hm => ?_)
    refine cf_if_eq C (tgt := 33) dX6_serves_24 (by decide) hm (fun hm => ?_) (fun hm => ?_)
    · refine cf_iconst C dX6_serves_33 (v := 0) rfl ?_
      refine cf_istore_n C (L1 := [(3, .int 0), (2, .ref (adr (vG E) (13 + x1.toNatClampNeg) 0)), (0, .ref (adr (vG E) 0 0)), (1, .int x1)]) dX6_serves_34 rfl (by decide) rfl ?_
      refine cf_sub C [2, 1, 0] rfl ?_
      obtain ⟨k, hm⟩ := hm
      exact w_L_X6_serves_35 C hR k (13 + x1.toNatClampNeg) 0 _ (okC_sheet hs3) hm
    · refine cf_aload_n C dX6_serves_27 rfl 1 rfl ?_
      refine cf_iconst C dX6_serves_28 (v := 2) rfl ?_
      refine cf_callVi C [.int 2] [] okC_0.1 (ocell_6 okC_0.2.1) rfl q316 q0 (c_X6_wrong (vL E) (vG E) 2 _ _  hm) q314 q317 q65 md_X6_wrong (Nat.le_of_ble_eq_true rfl) (Nat.le_of_ble_eq_true rfl) rfl rfl (Nat.le_of_ble_eq_true rfl) dX6_serves_29 (fun v13 S12 hm => ?_)
      exact hR _ _ _ _ dX6_serves_32 hm
  · refine cf_aload_n C dX6_serves_7 rfl 0 rfl ?_
    refine cf_iconst C dX6_serves_8 (v := 1) rfl ?_
    refine cf_callVi C [.int 1] [] okC_0.1 (ocell_6 okC_0.2.1) rfl q316 q0 (c_X6_wrong (vL E) (vG E) 1 _ _  hm) q314 q317 q65 md_X6_wrong (Nat.le_of_ble_eq_true rfl) (Nat.le_of_ble_eq_true rfl) rfl rfl (Nat.le_of_ble_eq_true rfl) dX6_serves_9 (fun v15 S14 hm => ?_)
    exact hR _ _ _ _ dX6_serves_12 hm
