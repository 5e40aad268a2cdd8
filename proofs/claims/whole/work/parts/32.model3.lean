def L_X7_leastClaim_4    (Q : Int32 → St → Prop) : Nat → Int32 → Int32 → St → Prop
  | 0 => fun _ _ _ => False
  | n + 1 => fun x1 x2 S => vp_in 5 387 ∧ (if (S.2 17 0 (5 : Int32).toNatClampNeg) ≤ x2 then (Q x1 S) else (vp_in x2 9 ∧ (if (S.2 17 13 x2.toNatClampNeg) = 0 then (nmI (x2 + 1) (fun v1 => L_X7_leastClaim_4 Q n x1 v1 S)) else (if x1 = (-1) then (nmI (x2 + 1) (fun v2 => L_X7_leastClaim_4 Q n x2 v2 S)) else (vp_in x2 9 ∧ (vp_in x1 9 ∧ (if (S.2 17 12 x1.toNatClampNeg) ≤ (S.2 17 12 x2.toNatClampNeg) then (nmI (x2 + 1) (fun v3 => L_X7_leastClaim_4 Q n x1 v3 S)) else (nmI (x2 + 1) (fun v4 => L_X7_leastClaim_4 Q n x2 v4 S)))))))))
set_option maxRecDepth 20000 in
theorem w_L_X7_leastClaim_4 {E : EV} {Q : Int32 → St → Prop}   (C : CX E cX7_leastClaim RX7 3 enM 0 0)   (hR : RTi E cX7_leastClaim Q) : ∀ (n : Nat) (x1 : Int32) (x2 : Int32) (S : St), L_X7_leastClaim_4 Q n x1 x2 S → CF E S 4 [(0, .ref (adr (vG E) 17 0)), (1, .int x1), (2, .int x2)] [] := by
  intro n
  induction n with
  | zero =>
    intro x1 x2 S hm
    exact hm.elim
  | succ n ih =>
    intro x1 x2 S hm
    unfold L_X7_leastClaim_4 at hm
    refine cf_iload_n C dX7_leastClaim_4 rfl 2 rfl ?_
    refine cf_aload_n C dX7_leastClaim_5 rfl 0 rfl ?_
    refine gf_7_0 C inX7 okM_17 q694 dX7_leastClaim_6 ?_
    refine cf_iconst C dX7_leastClaim_9 (v := 5) rfl ?_
    refine cf_iald C (okA_of 0 okM_17 rfl (by decide) (by decide) (by decide)) dX7_leastClaim_10 hm (fun hm => ?_)
    refine cf_icmp_ge C (tgt := 55) dX7_leastClaim_11 (by decide) hm (fun hm => ?_) (fun hm => ?_)
    · refine cf_iload_n C dX7_leastClaim_55 rfl 1 rfl ?_
      exact hR _ _ _ _ dX7_leastClaim_56 hm
    · refine cf_aload_n C dX7_leastClaim_14 rfl 0 rfl ?_
      refine gf_7_13 C inX7 okM_17 q707 dX7_leastClaim_15 ?_
      refine cf_iload_n C dX7_leastClaim_18 rfl 2 rfl ?_
      refine cf_zald C dX7_leastClaim_19 hm (fun hm => ?_)
      refine cf_if_eq C (tgt := 47) dX7_leastClaim_20 (by decide) hm (fun hm => ?_) (fun hm => ?_)
      · refine cf_iload_n C dX7_leastClaim_47 rfl 1 rfl ?_
        refine cf_istore_n C (L1 := [(1, .int x1), (0, .ref (adr (vG E) 17 0)), (2, .int x2)]) dX7_leastClaim_48 rfl (by decide) rfl ?_
        refine cf_iincN C (L1 := fun v1 => [(2, .int v1), (1, .int x1), (0, .ref (adr (vG E) 17 0))]) dX7_leastClaim_49 2 rfl rfl (by decide) (fun _ => rfl) hm (fun v1 hm => ?_)
        refine cf_goto C (tgt := 4) dX7_leastClaim_52 (by decide) ?_
        refine cf_sub C [2, 1, 0] rfl ?_
        exact ih x1 v1 _ hm
      · refine cf_iload_n C dX7_leastClaim_23 rfl 1 rfl ?_
        refine cf_iconst C dX7_leastClaim_24 (v := (-1)) rfl ?_
        refine cf_icmp_eq C (tgt := 43) dX7_leastClaim_25 (by decide) hm (fun hm => ?_) (fun hm => ?_)
        · refine cf_iload_n C dX7_leastClaim_43 rfl 2 rfl ?_
          refine cf_goto C (tgt := 48) dX7_leastClaim_44 (by decide) ?_
          refine cf_istore_n C (L1 := [(1, .int x2), (0, .ref (adr (vG E) 17 0)), (2, .int x2)]) dX7_leastClaim_48 rfl (by decide) rfl ?_
          refine cf_iincN C (L1 := fun v2 => [(2, .int v2), (1, .int x2), (0, .ref (adr (vG E) 17 0))]) dX7_leastClaim_49 2 rfl rfl (by decide) (fun _ => rfl) hm (fun v2 hm => ?_)
          refine cf_goto C (tgt := 4) dX7_leastClaim_52 (by decide) ?_
          refine cf_sub C [2, 1, 0] rfl ?_
          exact ih x2 v2 _ hm
        · refine cf_aload_n C dX7_leastClaim_28 rfl 0 rfl ?_
          refine gf_7_12 C inX7 okM_17 q706 dX7_leastClaim_29 ?_
          refine cf_iload_n C dX7_leastClaim_32 rfl 2 rfl ?_
          refine cf_iald C (okA_of 12 okM_17 rfl (by decide) (by decide) (by decide)) dX7_leastClaim_33 hm (fun hm => ?_)
          refine cf_aload_n C dX7_leastClaim_34 rfl 0 rfl ?_
          refine gf_7_12 C inX7 okM_17 q706 dX7_leastClaim_35 ?_
          refine cf_iload_n C dX7_leastClaim_38 rfl 1 rfl ?_
          refine cf_iald C (okA_of 12 okM_17 rfl (by decide) (by decide) (by decide)) dX7_leastClaim_39 hm (fun hm => ?_)
          refine cf_icmp_ge C (tgt := 47) dX7_leastClaim_40 (by decide) hm (fun hm => ?_) (fun hm => ?_)
          · refine cf_iload_n C dX7_leastClaim_47 rfl 1 rfl ?_
            refine cf_istore_n C (L1 := [(1, .int x1), (0, .ref (adr (vG E) 17 0)), (2, .int x2)]) dX7_leastClaim_48 rfl (by decide) rfl ?_
            refine cf_iincN C (L1 := fun v3 => [(2, .int v3), (1, .int x1), (0, .ref (adr (vG E) 17 0))]) dX7_leastClaim_49 2 rfl rfl (by decide) (fun _ => rfl) hm (fun v3 hm => ?_)
            refine cf_goto C (tgt := 4) dX7_leastClaim_52 (by decide) ?_
            refine cf_sub C [2, 1, 0] rfl ?_
            exact ih x1 v3 _ hm
          · refine cf_iload_n C dX7_leastClaim_43 rfl 2 rfl ?_
            refine cf_goto C (tgt := 48) dX7_leastClaim_44 (by decide) ?_
            refine cf_istore_n C (L1 := [(1, .int x2), (0, .ref (adr (vG E) 17 0)), (2, .int x2)]) dX7_leastClaim_48 rfl (by decide) rfl ?_
            refine cf_iincN C (L1 := fun v4 => [(2, .int v4), (1, .int x2), (0, .ref (adr (vG E) 17 0))]) dX7_leastClaim_49 2 rfl rfl (by decide) (fun _ => rfl) hm (fun v4 hm => ?_)
            refine cf_goto C (tgt := 4) dX7_leastClaim_52 (by decide) ?_
            refine cf_sub C [2, 1, 0] rfl ?_
            exact ih x2 v4 _ hm
def E_X7_leastClaim  (S : St) (Q : Int32 → St → Prop) : Prop := ∃ k, L_X7_leastClaim_4 Q k (-1) 0 S
set_option maxRecDepth 20000 in
theorem c_X7_leastClaim (l : Launch) (G : GX)  (S : St) (Q : Int32 → St → Prop)  (hm : E_X7_leastClaim  S Q) : CTi l yX7_leastClaim (Cond.code yX7_leastClaim cX7_leastClaim 3 (some .int) :: AW) { frames := 0, cells := 0, slots := 0, locals := 0 } G enM [.ref (adr G 17 0)] S Q := by
  refine ct_start_i (by decide) enM_nd (Nat.le_of_ble_eq_true rfl) (fun E hG hl C hR => ?_)
  subst hG
  subst hl
  show CF E S 0 [(0, .ref (adr (vG E) 17 0))] []
  unfold E_X7_leastClaim at hm
  refine cf_iconst C dX7_leastClaim_0 (v := (-1)) rfl ?_
  refine cf_istore_n C (L1 := [(1, .int ((-1))), (0, .ref (adr (vG E) 17 0))]) dX7_leastClaim_1 rfl (by decide) rfl ?_
  refine cf_iconst C dX7_leastClaim_2 (v := 0) rfl ?_
  refine cf_istore_n C (L1 := [(2, .int 0), (1, .int ((-1))), (0, .ref (adr (vG E) 17 0))]) dX7_leastClaim_3 rfl (by decide) rfl ?_
  refine cf_sub C [2, 1, 0] rfl ?_
  obtain ⟨k, hm⟩ := hm
  exact w_L_X7_leastClaim_4 C hR k (-1) 0 _ hm

def J_X7_eaten_32   (K7 : Int32 → Int32 → St → Prop) (Q : Int32 → St → Prop) (x2 : Int32) (x3 : Int32) (t0 : Int32) (S : St) : Prop := E_X7_its x3 2 S (fun v6 S5 => E_X7_lays1 x3 2 (v6 - t0) S5 (fun S7 => nmI (x2 - t0) (fun v8 => vp_in x3 9 ∧ (nmS (stR S7 17 13 (upd (S7.2 17 13) x3.toNatClampNeg (vp_nar .boolean 0))) (fun S9 => E_X7_leastClaim S9 (fun v11 S10 => K7 v8 v11 S10))))))
set_option maxRecDepth 20000 in
theorem w_J_X7_eaten_32 {E : EV} {Q : Int32 → St → Prop}   (C : CX E cX7_eaten RX7 5 enM 1 23)   (hR : RTi E cX7_eaten Q) {K7 : Int32 → Int32 → St → Prop} (hK7 : ∀ (x2 : Int32) (x3 : Int32) (S : St), K7 x2 x3 S → CF E S 7 [(0, .ref (adr (vG E) 17 0)), (2, .int x2), (3, .int x3)] []) : ∀ (x2 : Int32) (x3 : Int32) (t0 : Int32) (S : St), J_X7_eaten_32 K7 Q x2 x3 t0 S → CF E S 32 [(0, .ref (adr (vG E) 17 0)), (2, .int x2), (3, .int x3)] [.int t0] := by
  intro x2 x3 t0 S hm
  unfold J_X7_eaten_32 at hm
  refine cf_istore C (L1 := [(4, .int t0), (0, .ref (adr (vG E) 17 0)), (2, .int x2), (3, .int x3)]) dX7_eaten_32 (by decide) rfl ?_
  refine cf_aload_n C dX7_eaten_34 rfl 1 rfl ?_
  refine cf_iload_n C dX7_eaten_35 rfl 3 rfl ?_
  refine cf_iconst C dX7_eaten_36 (v := 2) rfl ?_
  refine cf_aload_n C dX7_eaten_37 rfl 1 rfl ?_
  refine cf_iload_n C dX7_eaten_38 rfl 3 rfl ?_
  refine cf_iconst C dX7_eaten_39 (v := 2) rfl ?_
  refine cf_callVi C [.int x3, .int 2] [.int 2, .int x3, .ref (adr (vG E) 17 0)] okM_17.1 (ocell_7 okM_17.2.1) rfl q860 q36 (c_X7_its (vL E) (vG E) x3 2 _ _  hm) q858 q861 q72 md_X7_its (Nat.le_of_ble_eq_true rfl) (Nat.le_of_ble_eq_true rfl) rfl rfl (Nat.le_of_ble_eq_true rfl) dX7_eaten_40 (fun v6 S5 hm => ?_)
  refine cf_iload C dX7_eaten_43 0 rfl ?_
  refine cf_isub C dX7_eaten_45 ?_
  refine cf_callVv C [.int x3, .int 2, .int (v6 - t0)] [] okM_17.1 (ocell_7 okM_17.2.1) rfl q840 q32 (c_X7_lays1 (vL E) (vG E) x3 2 (v6 - t0) _ _  hm) q838 q841 q72 md_X7_lays1 (Nat.le_of_ble_eq_true rfl) (Nat.le_of_ble_eq_true rfl) rfl rfl (Nat.le_of_ble_eq_true rfl) dX7_eaten_46 (fun S7 hm => ?_)
  refine cf_iload_n C dX7_eaten_49 rfl 2 rfl ?_
  refine cf_iload C dX7_eaten_50 0 rfl ?_
  refine cf_isub C dX7_eaten_52 ?_
  refine cf_nmI hm (fun v8 hm => ?_)
  refine cf_istore_n C (L1 := [(2, .int v8), (4, .int t0), (0, .ref (adr (vG E) 17 0)), (3, .int x3)]) dX7_eaten_53 rfl (by decide) rfl ?_
  refine cf_aload_n C dX7_eaten_54 rfl 2 rfl ?_
  refine gf_7_13 C inX7 okM_17 q707 dX7_eaten_55 ?_
  refine cf_iload_n C dX7_eaten_58 rfl 3 rfl ?_
  refine cf_iconst C dX7_eaten_59 (v := 0) rfl ?_
  refine cf_zast C dX7_eaten_60 hm (fun hm => ?_)
  refine cf_nmS hm (fun S9 hm => ?_)
  refine cf_aload_n C dX7_eaten_61 rfl 2 rfl ?_
  refine cf_callVi C [] [] okM_17.1 (ocell_7 okM_17.2.1) rfl q942 q46 (c_X7_leastClaim (vL E) (vG E)  _ _  hm) q940 q943 q72 md_X7_leastClaim (Nat.le_of_ble_eq_true rfl) (Nat.le_of_ble_eq_true rfl) rfl rfl (Nat.le_of_ble_eq_true rfl) dX7_eaten_62 (fun v11 S10 hm => ?_)
  refine cf_istore_n C (L1 := [(3, .int v11), (2, .int v8), (4, .int t0), (0, .ref (adr (vG E) 17 0))]) dX7_eaten_65 rfl (by decide) rfl ?_
  refine cf_goto C (tgt := 7) dX7_eaten_66 (by decide) ?_
  refine cf_sub C [3, 1, 0] rfl ?_
  exact hK7 v8 v11 _ hm
def L_X7_eaten_7    (Q : Int32 → St → Prop) : Nat → Int32 → Int32 → St → Prop
  | 0 => fun _ _ _ => False
  | n + 1 => fun x2 x3 S => if x3 = (-1) then (Q x2 S) else (E_X7_its x3 2 S (fun v4 S3 => if x2 ≤ v4 then (J_X7_eaten_32 (L_X7_eaten_7 Q n) Q x2 x3 x2 S3) else (E_X7_its x3 2 S3 (fun v13 S12 => J_X7_eaten_32 (L_X7_eaten_7 Q n) Q x2 x3 v13 S12))))
set_option maxRecDepth 20000 in
theorem w_L_X7_eaten_7 {E : EV} {Q : Int32 → St → Prop}   (C : CX E cX7_eaten RX7 5 enM 1 23)   (hR : RTi E cX7_eaten Q) : ∀ (n : Nat) (x2 : Int32) (x3 : Int32) (S : St), L_X7_eaten_7 Q n x2 x3 S → CF E S 7 [(0, .ref (adr (vG E) 17 0)), (2, .int x2), (3, .int x3)] [] := by
  intro n
  induction n with
  | zero =>
    intro x2 x3 S hm
    exact hm.elim
  | succ n ih =>
    intro x2 x3 S hm
    unfold L_X7_eaten_7 at hm
    refine cf_iload_n C dX7_eaten_7 rfl 2 rfl ?_
    refine cf_iconst C dX7_eaten_8 (v := (-1)) rfl ?_
    refine cf_icmp_eq C (tgt := 69) dX7_eaten_9 (by decide) hm (fun hm => ?_) (fun hm => ?_)
    · refine cf_iload_n C dX7_eaten_69 rfl 1 rfl ?_
      exact hR _ _ _ _ dX7_eaten_70 hm
    · refine cf_aload_n C dX7_eaten_12 rfl 0 rfl ?_
      refine cf_iload_n C dX7_eaten_13 rfl 2 rfl ?_
      refine cf_iconst C dX7_eaten_14 (v := 2) rfl ?_
      refine cf_callVi C [.int x3, .int 2] [] okM_17.1 (ocell_7 okM_17.2.1) rfl q860 q36 (c_X7_its (vL E) (vG E) x3 2 _ _  hm) q858 q861 q72 md_X7_its (Nat.le_of_ble_eq_true rfl) (Nat.le_of_ble_eq_true rfl) rfl rfl (Nat.le_of_ble_eq_true rfl) dX7_eaten_15 (fun v4 S3 hm => ?_)
      refine cf_iload_n C dX7_eaten_18 rfl 1 rfl ?_
      refine cf_icmp_ge C (tgt := 31) dX7_eaten_19 (by decide) hm (fun hm => ?_) (fun hm => ?_)
      · refine cf_iload_n C dX7_eaten_31 rfl 1 rfl ?_
        exact w_J_X7_eaten_32 C hR ih x2 x3 x2 _ hm
      · refine cf_aload_n C dX7_eaten_22 rfl 0 rfl ?_
        refine cf_iload_n C dX7_eaten_23 rfl 2 rfl ?_
        refine cf_iconst C dX7_eaten_24 (v := 2) rfl ?_
        refine cf_callVi C [.int x3, .int 2] [] okM_17.1 (ocell_7 okM_17.2.1) rfl q860 q36 (c_X7_its (vL E) (vG E) x3 2 _ _  hm) q858 q861 q72 md_X7_its (Nat.le_of_ble_eq_true rfl) (Nat.le_of_ble_eq_true rfl) rfl rfl (Nat.le_of_ble_eq_true rfl) dX7_eaten_25 (fun v13 S12 hm => ?_)
        refine cf_goto C (tgt := 32) dX7_eaten_28 (by decide) ?_
        exact w_J_X7_eaten_32 C hR ih x2 x3 v13 _ hm
def E_X7_eaten (x1 : Int32) (S : St) (Q : Int32 → St → Prop) : Prop := E_X7_leastClaim S (fun v2 S1 => ∃ k, L_X7_eaten_7 Q k x1 v2 S1)
set_option maxRecDepth 20000 in
theorem c_X7_eaten (l : Launch) (G : GX) (x1 : Int32) (S : St) (Q : Int32 → St → Prop)  (hm : E_X7_eaten x1 S Q) : CTi l yX7_eaten (Cond.code yX7_eaten cX7_eaten 5 (some .int) :: AW) { frames := 1, cells := 0, slots := 0, locals := 23 } G enM [.ref (adr G 17 0), .int x1] S Q := by
  refine ct_start_i (by decide) enM_nd (Nat.le_of_ble_eq_true rfl) (fun E hG hl C hR => ?_)
  subst hG
  subst hl
  show CF E S 0 [(0, .ref (adr (vG E) 17 0)), (1, .int x1)] []
  unfold E_X7_eaten at hm
  refine cf_iload_n C dX7_eaten_0 rfl 1 rfl ?_
  refine cf_istore_n C (L1 := [(2, .int x1), (0, .ref (adr (vG E) 17 0)), (1, .int x1)]) dX7_eaten_1 rfl (by decide) rfl ?_
  refine cf_aload_n C dX7_eaten_2 rfl 1 rfl ?_
  refine cf_callVi C [] [] okM_17.1 (ocell_7 okM_17.2.1) rfl q942 q46 (c_X7_leastClaim (vL E) (vG E)  _ _  hm) q940 q943 q72 md_X7_leastClaim (Nat.le_of_ble_eq_true rfl) (Nat.le_of_ble_eq_true rfl) rfl rfl (Nat.le_of_ble_eq_true rfl) dX7_eaten_3 (fun v2 S1 hm => ?_)
  refine cf_istore_n C (L1 := [(3, .int v2), (2, .int x1), (0, .ref (adr (vG E) 17 0)), (1, .int x1)]) dX7_eaten_6 rfl (by decide) rfl ?_
  refine cf_sub C [2, 1, 0] rfl ?_
  obtain ⟨k, hm⟩ := hm
  exact w_L_X7_eaten_7 C hR k x1 v2 _ hm

def L_X7_aMeal_61    (Q : Int32 → St → Prop) : Nat → Int32 → Int32 → St → Prop
  | 0 => fun _ _ _ => False
  | n + 1 => fun x3 x4 S => vp_in 5 387 ∧ (if (S.2 17 0 (5 : Int32).toNatClampNeg) ≤ x4 then (vp_in 1 387 ∧ (E_X7_held ((S.2 17 0 (1 : Int32).toNatClampNeg) + x3) 0 99999 S (fun v6 S5 => vp_in 1 387 ∧ (nmS (stR S5 17 0 (upd (S5.2 17 0) (1 : Int32).toNatClampNeg v6)) (fun S7 => vp_in 0 387 ∧ (vp_in 0 387 ∧ (nmS (stR S7 17 0 (upd (S7.2 17 0) (0 : Int32).toNatClampNeg ((S7.2 17 0 (0 : Int32).toNatClampNeg) + 1))) (fun S8 => Q x3 S8)))))))) else (E_X7_its x4 2 S (fun v10 S9 => if v10 ≤ 0 then (nmI (x4 + 1) (fun v11 => L_X7_aMeal_61 Q n x3 v11 S9)) else (E_X7_its x4 3 S9 (fun v13 S12 => E_X7_held (v13 + 1) 0 999 S12 (fun v15 S14 => E_X7_lays1 x4 3 v15 S14 (fun S16 => E_X7_its x4 2 S16 (fun v18 S17 => E_X7_spoilsOf x4 S17 (fun v20 S19 => E_X7_held (v18 - v20) 0 99 S19 (fun v22 S21 => E_X7_lays1 x4 2 v22 S21 (fun S23 => nmI (x4 + 1) (fun v24 => L_X7_aMeal_61 Q n x3 v24 S23))))))))))))
set_option maxRecDepth 20000 in
theorem w_L_X7_aMeal_61 {E : EV} {Q : Int32 → St → Prop}   (C : CX E cX7_aMeal RX7 5 enM 5 114)   (hR : RTi E cX7_aMeal Q) : ∀ (n : Nat) (x3 : Int32) (x4 : Int32) (S : St), L_X7_aMeal_61 Q n x3 x4 S → CF E S 61 [(0, .ref (adr (vG E) 17 0)), (3, .int x3), (4, .int x4)] [] := by
  intro n
  induction n with
  | zero =>
    intro x3 x4 S hm
    exact hm.elim
  | succ n ih =>
    intro x3 x4 S hm
    unfold L_X7_aMeal_61 at hm
    refine cf_iload C dX7_aMeal_61 2 rfl ?_
    refine cf_aload_n C dX7_aMeal_63 rfl 0 rfl ?_
    refine gf_7_0 C inX7 okM_17 q694 dX7_aMeal_64 ?_
    refine cf_iconst C dX7_aMeal_67 (v := 5) rfl ?_
    refine cf_iald C (okA_of 0 okM_17 rfl (by decide) (by decide) (by decide)) dX7_aMeal_68 hm (fun hm => ?_)
    refine cf_icmp_ge C (tgt := 138) dX7_aMeal_69 (by decide) hm (fun hm => ?_) (fun hm => ?_)
    · refine cf_aload_n C dX7_aMeal_138 rfl 0 rfl ?_
      refine gf_7_0 C inX7 okM_17 q694 dX7_aMeal_139 ?_
      refine cf_iconst C dX7_aMeal_142 (v := 1) rfl ?_
      refine cf_aload_n C dX7_aMeal_143 rfl 0 rfl ?_
      refine gf_7_0 C inX7 okM_17 q694 dX7_aMeal_144 ?_
      refine cf_iconst C dX7_aMeal_147 (v := 1) rfl ?_
      refine cf_iald C (okA_of 0 okM_17 rfl (by decide) (by decide) (by decide)) dX7_aMeal_148 hm (fun hm => ?_)
      refine cf_iload_n C dX7_aMeal_149 rfl 1 rfl ?_
      refine cf_iadd C dX7_aMeal_150 ?_
      refine cf_iconst C dX7_aMeal_151 (v := 0) rfl ?_
      refine cf_ldc C dX7_aMeal_152 q944 ?_
      refine cf_callSi C [.int ((S.2 17 0 (1 : Int32).toNatClampNeg) + x3), .int 0, .int 99999] [.int 1, .ref (adr (vG E) 17 1)] q874 (c_X7_held (vL E) (vG E) ((S.2 17 0 (1 : Int32).toNatClampNeg) + x3) 0 99999 _ _  hm) q873 q875 q72 md_X7_held (Nat.le_of_ble_eq_true rfl) (Nat.le_of_ble_eq_true rfl) rfl rfl (Nat.le_of_ble_eq_true rfl) dX7_aMeal_154 (fun v6 S5 hm => ?_)
      refine cf_iast C (okA_of 0 okM_17 rfl (by decide) (by decide) (by decide)) dX7_aMeal_157 hm (fun hm => ?_)
      refine cf_nmS hm (fun S7 hm => ?_)
      refine cf_aload_n C dX7_aMeal_158 rfl 0 rfl ?_
      refine gf_7_0 C inX7 okM_17 q694 dX7_aMeal_159 ?_
      refine cf_iconst C dX7_aMeal_162 (v := 0) rfl ?_
      refine cf_dup2 C dX7_aMeal_163 rfl rfl ?_
      refine cf_iald C (okA_of 0 okM_17 rfl (by decide) (by decide) (by decide)) dX7_aMeal_164 hm (fun hm => ?_)
      refine cf_iconst C dX7_aMeal_165 (v := 1) rfl ?_
      refine cf_iadd C dX7_aMeal_166 ?_
      refine cf_iast C (okA_of 0 okM_17 rfl (by decide) (by decide) (by decide)) dX7_aMeal_167 hm (fun hm => ?_)
      refine cf_nmS hm (fun S8 hm => ?_)
      refine cf_iload_n C dX7_aMeal_168 rfl 1 rfl ?_
      exact hR _ _ _ _ dX7_aMeal_169 hm
    · refine cf_aload_n C dX7_aMeal_72 rfl 0 rfl ?_
      refine cf_iload C dX7_aMeal_73 2 rfl ?_
      refine cf_iconst C dX7_aMeal_75 (v := 2) rfl ?_
      refine cf_callVi C [.int x4, .int 2] [] okM_17.1 (ocell_7 okM_17.2.1) rfl q860 q36 (c_X7_its (vL E) (vG E) x4 2 _ _  hm) q858 q861 q72 md_X7_its (Nat.le_of_ble_eq_true rfl) (Nat.le_of_ble_eq_true rfl) rfl rfl (Nat.le_of_ble_eq_true rfl) dX7_aMeal_76 (fun v10 S9 hm => ?_)
      refine cf_if_le C (tgt := 132) dX7_aMeal_79 (by decide) hm (fun hm => ?_) (fun hm => ?_)
      · refine cf_iincN C (L1 := fun v11 => [(4, .int v11), (0, .ref (adr (vG E) 17 0)), (3, .int x3)]) dX7_aMeal_132 2 rfl rfl (by decide) (fun _ => rfl) hm (fun v11 hm => ?_)
        refine cf_goto C (tgt := 61) dX7_aMeal_135 (by decide) ?_
        refine cf_sub C [1, 2, 0] rfl ?_
        exact ih x3 v11 _ hm
      · refine cf_aload_n C dX7_aMeal_82 rfl 0 rfl ?_
        refine cf_iload C dX7_aMeal_83 2 rfl ?_
        refine cf_iconst C dX7_aMeal_85 (v := 3) rfl ?_
        refine cf_aload_n C dX7_aMeal_86 rfl 0 rfl ?_
        refine cf_iload C dX7_aMeal_87 2 rfl ?_
        refine cf_iconst C dX7_aMeal_89 (v := 3) rfl ?_
        refine cf_callVi C [.int x4, .int 3] [.int 3, .int x4, .ref (adr (vG E) 17 0)] okM_17.1 (ocell_7 okM_17.2.1) rfl q860 q36 (c_X7_its (vL E) (vG E) x4 3 _ _  hm) q858 q861 q72 md_X7_its (Nat.le_of_ble_eq_true rfl) (Nat.le_of_ble_eq_true rfl) rfl rfl (Nat.le_of_ble_eq_true rfl) dX7_aMeal_90 (fun v13 S12 hm => ?_)
        refine cf_iconst C dX7_aMeal_93 (v := 1) rfl ?_
        refine cf_iadd C dX7_aMeal_94 ?_
        refine cf_iconst C dX7_aMeal_95 (v := 0) rfl ?_
        refine cf_sipush C dX7_aMeal_96 (v := 999) rfl ?_
        refine cf_callSi C [.int (v13 + 1), .int 0, .int 999] [.int 3, .int x4, .ref (adr (vG E) 17 0)] q874 (c_X7_held (vL E) (vG E) (v13 + 1) 0 999 _ _  hm) q873 q875 q72 md_X7_held (Nat.le_of_ble_eq_true rfl) (Nat.le_of_ble_eq_true rfl) rfl rfl (Nat.le_of_ble_eq_true rfl) dX7_aMeal_99 (fun v15 S14 hm => ?_)
        refine cf_callVv C [.int x4, .int 3, .int v15] [] okM_17.1 (ocell_7 okM_17.2.1) rfl q840 q32 (c_X7_lays1 (vL E) (vG E) x4 3 v15 _ _  hm) q838 q841 q72 md_X7_lays1 (Nat.le_of_ble_eq_true rfl) (Nat.le_of_ble_eq_true rfl) rfl rfl (Nat.le_of_ble_eq_true rfl) dX7_aMeal_102 (fun S16 hm => ?_)
        refine cf_aload_n C dX7_aMeal_105 rfl 0 rfl ?_
        refine cf_iload C dX7_aMeal_106 2 rfl ?_
        refine cf_iconst C dX7_aMeal_108 (v := 2) rfl ?_
        refine cf_aload_n C dX7_aMeal_109 rfl 0 rfl ?_
        refine cf_iload C dX7_aMeal_110 2 rfl ?_
        refine cf_iconst C dX7_aMeal_112 (v := 2) rfl ?_
        refine cf_callVi C [.int x4, .int 2] [.int 2, .int x4, .ref (adr (vG E) 17 0)] okM_17.1 (ocell_7 okM_17.2.1) rfl q860 q36 (c_X7_its (vL E) (vG E) x4 2 _ _  hm) q858 q861 q72 md_X7_its (Nat.le_of_ble_eq_true rfl) (Nat.le_of_ble_eq_true rfl) rfl rfl (Nat.le_of_ble_eq_true rfl) dX7_aMeal_113 (fun v18 S17 hm => ?_)
        refine cf_aload_n C dX7_aMeal_116 rfl 0 rfl ?_
        refine cf_iload C dX7_aMeal_117 2 rfl ?_
        refine cf_callVi C [.int x4] [.int v18, .int 2, .int x4, .ref (adr (vG E) 17 0)] okM_17.1 (ocell_7 okM_17.2.1) rfl q878 q39 (c_X7_spoilsOf (vL E) (vG E) x4 _ _  hm) q876 q879 q72 md_X7_spoilsOf (Nat.le_of_ble_eq_true rfl) (Nat.le_of_ble_eq_true rfl) rfl rfl (Nat.le_of_ble_eq_true rfl) dX7_aMeal_119 (fun v20 S19 hm => ?_)
        refine cf_isub C dX7_aMeal_122 ?_
        refine cf_iconst C dX7_aMeal_123 (v := 0) rfl ?_
        refine cf_bipush C dX7_aMeal_124 (v := 99) rfl ?_
        refine cf_callSi C [.int (v18 - v20), .int 0, .int 99] [.int 2, .int x4, .ref (adr (vG E) 17 0)] q874 (c_X7_held (vL E) (vG E) (v18 - v20) 0 99 _ _  hm) q873 q875 q72 md_X7_held (Nat.le_of_ble_eq_true rfl) (Nat.le_of_ble_eq_true rfl) rfl rfl (Nat.le_of_ble_eq_true rfl) dX7_aMeal_126 (fun v22 S21 hm => ?_)
        refine cf_callVv C [.int x4, .int 2, .int v22] [] okM_17.1 (ocell_7 okM_17.2.1) rfl q840 q32 (c_X7_lays1 (vL E) (vG E) x4 2 v22 _ _  hm) q838 q841 q72 md_X7_lays1 (Nat.le_of_ble_eq_true rfl) (Nat.le_of_ble_eq_true rfl) rfl rfl (Nat.le_of_ble_eq_true rfl) dX7_aMeal_129 (fun S23 hm => ?_)
        refine cf_iincN C (L1 := fun v24 => [(4, .int v24), (0, .ref (adr (vG E) 17 0)), (3, .int x3)]) dX7_aMeal_132 2 rfl rfl (by decide) (fun _ => rfl) hm (fun v24 hm => ?_)
        refine cf_goto C (tgt := 61) dX7_aMeal_135 (by decide) ?_
        refine cf_sub C [1, 2, 0] rfl ?_
        exact ih x3 v24 _ hm
def L_X7_aMeal_7    (Q : Int32 → St → Prop) : Nat → Int32 → Int32 → Int32 → St → Prop
  | 0 => fun _ _ _ _ => False
  | n + 1 => fun x1 x2 x3 S => vp_in 5 387 ∧ (if (S.2 17 0 (5 : Int32).toNatClampNeg) ≤ x3 then (E_X7_eaten x1 S (fun v4 S3 => ∃ k, L_X7_aMeal_61 Q k v4 0 S3)) else (E_X7_its x3 2 S (fun v26 S25 => if v26 ≤ 0 then (vp_in x3 9 ∧ (nmS (stR S25 17 13 (upd (S25.2 17 13) x3.toNatClampNeg (vp_nar .boolean 0))) (fun S27 => nmI (x3 + 1) (fun v28 => L_X7_aMeal_7 Q n x1 x2 v28 S27)))) else (E_X7_isInKeeping x3 x2 S25 (fun v30 S29 => if v30 = 0 then (vp_in x3 9 ∧ (nmS (stR S29 17 13 (upd (S29.2 17 13) x3.toNatClampNeg (vp_nar .boolean 0))) (fun S31 => nmI (x3 + 1) (fun v32 => L_X7_aMeal_7 Q n x1 x2 v32 S31)))) else (vp_in x3 9 ∧ (nmS (stR S29 17 13 (upd (S29.2 17 13) x3.toNatClampNeg (vp_nar .boolean 1))) (fun S33 => nmI (x3 + 1) (fun v34 => L_X7_aMeal_7 Q n x1 x2 v34 S33)))))))))
set_option maxRecDepth 20000 in
theorem w_L_X7_aMeal_7 {E : EV} {Q : Int32 → St → Prop}   (C : CX E cX7_aMeal RX7 5 enM 5 114)   (hR : RTi E cX7_aMeal Q) : ∀ (n : Nat) (x1 : Int32) (x2 : Int32) (x3 : Int32) (S : St), L_X7_aMeal_7 Q n x1 x2 x3 S → CF E S 7 [(0, .ref (adr (vG E) 17 0)), (1, .int x1), (2, .int x2), (3, .int x3)] [] := by
  intro n
  induction n with
  | zero =>
    intro x1 x2 x3 S hm
    exact hm.elim
  | succ n ih =>
    intro x1 x2 x3 S hm
    unfold L_X7_aMeal_7 at hm
    refine cf_iload_n C dX7_aMeal_7 rfl 3 rfl ?_
    refine cf_aload_n C dX7_aMeal_8 rfl 0 rfl ?_
    refine gf_7_0 C inX7 okM_17 q694 dX7_aMeal_9 ?_
    refine cf_iconst C dX7_aMeal_12 (v := 5) rfl ?_
    refine cf_iald C (okA_of 0 okM_17 rfl (by decide) (by decide) (by decide)) dX7_aMeal_13 hm (fun hm => ?_)
    refine cf_icmp_ge C (tgt := 52) dX7_aMeal_14 (by decide) hm (fun hm => ?_) (fun hm => ?_)
    · refine cf_aload_n C dX7_aMeal_52 rfl 0 rfl ?_
      refine cf_iload_n C dX7_aMeal_53 rfl 1 rfl ?_
      refine cf_callVi C [.int x1] [] okM_17.1 (ocell_7 okM_17.2.1) rfl q938 q45 (c_X7_eaten (vL E) (vG E) x1 _ _  hm) q936 q939 q72 md_X7_eaten (Nat.le_of_ble_eq_true rfl) (Nat.le_of_ble_eq_true rfl) rfl rfl (Nat.le_of_ble_eq_true rfl) dX7_aMeal_54 (fun v4 S3 hm => ?_)
      refine cf_istore_n C (L1 := [(3, .int v4), (0, .ref (adr (vG E) 17 0)), (1, .int x1), (2, .int x2)]) dX7_aMeal_57 rfl (by decide) rfl ?_
      refine cf_iconst C dX7_aMeal_58 (v := 0) rfl ?_
      refine cf_istore C (L1 := [(4, .int 0), (3, .int v4), (0, .ref (adr (vG E) 17 0)), (1, .int x1), (2, .int x2)]) dX7_aMeal_59 (by decide) rfl ?_
      refine cf_sub C [2, 1, 0] rfl ?_
      obtain ⟨k, hm⟩ := hm
      exact w_L_X7_aMeal_61 C hR k v4 0 _ hm
    · refine cf_aload_n C dX7_aMeal_17 rfl 0 rfl ?_
      refine gf_7_13 C inX7 okM_17 q707 dX7_aMeal_18 ?_
      refine cf_iload_n C dX7_aMeal_21 rfl 3 rfl ?_
      refine cf_aload_n C dX7_aMeal_22 rfl 0 rfl ?_
      refine cf_iload_n C dX7_aMeal_23 rfl 3 rfl ?_
      refine cf_iconst C dX7_aMeal_24 (v := 2) rfl ?_
      refine cf_callVi C [.int x3, .int 2] [.int x3, .ref (adr (vG E) 17 14)] okM_17.1 (ocell_7 okM_17.2.1) rfl q860 q36 (c_X7_its (vL E) (vG E) x3 2 _ _  hm) q858 q861 q72 md_X7_its (Nat.le_of_ble_eq_true rfl) (Nat.le_of_ble_eq_true rfl) rfl rfl (Nat.le_of_ble_eq_true rfl) dX7_aMeal_25 (fun v26 S25 hm => ?_)
      refine cf_if_le C (tgt := 44) dX7_aMeal_28 (by decide) hm (fun hm => ?_) (fun hm => ?_)
      · refine cf_iconst C dX7_aMeal_44 (v := 0) rfl ?_
        refine cf_zast C dX7_aMeal_45 hm (fun hm => ?_)
        refine cf_nmS hm (fun S27 hm => ?_)
        refine cf_iincN C (L1 := fun v28 => [(3, .int v28), (0, .ref (adr (vG E) 17 0)), (1, .int x1), (2, .int x2)]) dX7_aMeal_46 3 rfl rfl (by decide) (fun _ => rfl) hm (fun v28 hm => ?_)
        refine cf_goto C (tgt := 7) dX7_aMeal_49 (by decide) ?_
        refine cf_sub C [1, 2, 3, 0] rfl ?_
        exact ih x1 x2 v28 _ hm
      · refine cf_aload_n C dX7_aMeal_31 rfl 0 rfl ?_
        refine cf_iload_n C dX7_aMeal_32 rfl 3 rfl ?_
        refine cf_iload_n C dX7_aMeal_33 rfl 2 rfl ?_
        refine cf_callVi C [.int x3, .int x2] [.int x3, .ref (adr (vG E) 17 14)] okM_17.1 (ocell_7 okM_17.2.1) rfl q886 q41 (c_X7_isInKeeping (vL E) (vG E) x3 x2 _ _  hm) q884 q887 q72 md_X7_isInKeeping (Nat.le_of_ble_eq_true rfl) (Nat.le_of_ble_eq_true rfl) rfl rfl (Nat.le_of_ble_eq_true rfl) dX7_aMeal_34 (fun v30 S29 hm => ?_)
        refine cf_if_eq C (tgt := 44) dX7_aMeal_37 (by decide) hm (fun hm => ?_) (fun hm => ?_)
        · refine cf_iconst C dX7_aMeal_44 (v := 0) rfl ?_
          refine cf_zast C dX7_aMeal_45 hm (fun hm => ?_)
          refine cf_nmS hm (fun S31 hm => ?_)
          refine cf_iincN C (L1 := fun v32 => [(3, .int v32), (0, .ref (adr (vG E) 17 0)), (1, .int x1), (2, .int x2)]) dX7_aMeal_46 3 rfl rfl (by decide) (fun _ => rfl) hm (fun v32 hm => ?_)
          refine cf_goto C (tgt := 7) dX7_aMeal_49 (by decide) ?_
          refine cf_sub C [1, 2, 3, 0] rfl ?_
          exact ih x1 x2 v32 _ hm
        · refine cf_iconst C dX7_aMeal_40 (v := 1) rfl ?_
          refine cf_goto C (tgt := 45) dX7_aMeal_41 (by decide) ?_
          refine cf_zast C dX7_aMeal_45 hm (fun hm => ?_)
          refine cf_nmS hm (fun S33 hm => ?_)
          refine cf_iincN C (L1 := fun v34 => [(3, .int v34), (0, .ref (adr (vG E) 17 0)), (1, .int x1), (2, .int x2)]) dX7_aMeal_46 3 rfl rfl (by decide) (fun _ => rfl) hm (fun v34 hm => ?_)
          refine cf_goto C (tgt := 7) dX7_aMeal_49 (by decide) ?_
          refine cf_sub C [1, 2, 3, 0] rfl ?_
          exact ih x1 x2 v34 _ hm
def E_X7_aMeal (x1 : Int32) (S : St) (Q : Int32 → St → Prop) : Prop := E_X7_findRuler S (fun v2 S1 => ∃ k, L_X7_aMeal_7 Q k x1 v2 0 S1)
set_option maxRecDepth 20000 in
theorem c_X7_aMeal (l : Launch) (G : GX) (x1 : Int32) (S : St) (Q : Int32 → St → Prop)  (hm : E_X7_aMeal x1 S Q) : CTi l yX7_aMeal (Cond.code yX7_aMeal cX7_aMeal 5 (some .int) :: AW) { frames := 5, cells := 0, slots := 0, locals := 114 } G enM [.ref (adr G 17 0), .int x1] S Q := by
  refine ct_start_i (by decide) enM_nd (Nat.le_of_ble_eq_true rfl) (fun E hG hl C hR => ?_)
  subst hG
  subst hl
  show CF E S 0 [(0, .ref (adr (vG E) 17 0)), (1, .int x1)] []
  unfold E_X7_aMeal at hm
  refine cf_aload_n C dX7_aMeal_0 rfl 0 rfl ?_
  refine cf_callVi C [] [] okM_17.1 (ocell_7 okM_17.2.1) rfl q882 q40 (c_X7_findRuler (vL E) (vG E)  _ _  hm) q880 q883 q72 md_X7_findRuler (Nat.le_of_ble_eq_true rfl) (Nat.le_of_ble_eq_true rfl) rfl rfl (Nat.le_of_ble_eq_true rfl) dX7_aMeal_1 (fun v2 S1 hm => ?_)
  refine cf_istore_n C (L1 := [(2, .int v2), (0, .ref (adr (vG E) 17 0)), (1, .int x1)]) dX7_aMeal_4 rfl (by decide) rfl ?_
  refine cf_iconst C dX7_aMeal_5 (v := 0) rfl ?_
  refine cf_istore_n C (L1 := [(3, .int 0), (2, .int v2), (0, .ref (adr (vG E) 17 0)), (1, .int x1)]) dX7_aMeal_6 rfl (by decide) rfl ?_
  refine cf_sub C [2, 3, 1, 0] rfl ?_
  obtain ⟨k, hm⟩ := hm
  exact w_L_X7_aMeal_7 C hR k x1 v2 0 _ hm

def E_X7_meal (x1 : Int32) (S : St) (Q : Int32 → St → Prop) : Prop := E_X7_isHunger x1 S (fun v2 S1 => if v2 = 0 then (E_X7_error 1 S1 (fun v8 S7 => Q v8 S7)) else (vp_in 0 387 ∧ (if (S1.2 17 0 (0 : Int32).toNatClampNeg) = 9999 then (E_X7_error 3 S1 (fun v6 S5 => Q v6 S5)) else (E_X7_aMeal x1 S1 (fun v4 S3 => Q v4 S3)))))
set_option maxRecDepth 20000 in
theorem c_X7_meal (l : Launch) (G : GX) (x1 : Int32) (S : St) (Q : Int32 → St → Prop)  (hm : E_X7_meal x1 S Q) : CTi l yX7_meal (Cond.code yX7_meal cX7_meal 2 (some .int) :: AW) { frames := 6, cells := 0, slots := 0, locals := 138 } G enM [.ref (adr G 17 0), .int x1] S Q := by
  refine ct_start_i (by decide) enM_nd (Nat.le_of_ble_eq_true rfl) (fun E hG hl C hR => ?_)
  subst hG
  subst hl
  show CF E S 0 [(0, .ref (adr (vG E) 17 0)), (1, .int x1)] []
  unfold E_X7_meal at hm
  refine cf_iload_n C dX7_meal_0 rfl 1 rfl ?_
  refine cf_callSi C [.int x1] [] q930 (c_X7_isHunger (vL E) (vG E) x1 _ _  hm) q929 q931 q72 md_X7_isHunger (Nat.le_of_ble_eq_true rfl) (Nat.le_of_ble_eq_true rfl) rfl rfl (Nat.le_of_ble_eq_true rfl) dX7_meal_1 (fun v2 S1 hm => ?_)
  refine cf_if_ne C (tgt := 13) dX7_meal_4 (by decide) hm (fun hm => ?_) (fun hm => ?_)
  · refine cf_aload_n C dX7_meal_13 rfl 0 rfl ?_
    refine gf_7_0 C inX7 okM_17 q694 dX7_meal_14 ?_
    refine cf_iconst C dX7_meal_17 (v := 0) rfl ?_
    refine cf_iald C (okA_of 0 okM_17 rfl (by decide) (by decide) (by decide)) dX7_meal_18 hm (fun hm => ?_)
    refine cf_sipush C dX7_meal_19 (v := 9999) rfl ?_
    refine cf_icmp_ne C (tgt := 33) dX7_meal_22 (by decide) hm (fun hm => ?_) (fun hm => ?_)
    · refine cf_aload_n C dX7_meal_33 rfl 0 rfl ?_
      refine cf_iload_n C dX7_meal_34 rfl 1 rfl ?_
      refine cf_callVi C [.int x1] [] okM_17.1 (ocell_7 okM_17.2.1) rfl q934 q44 (c_X7_aMeal (vL E) (vG E) x1 _ _  hm) q932 q935 q72 md_X7_aMeal (Nat.le_of_ble_eq_true rfl) (Nat.le_of_ble_eq_true rfl) rfl rfl (Nat.le_of_ble_eq_true rfl) dX7_meal_35 (fun v4 S3 hm => ?_)
      exact hR _ _ _ _ dX7_meal_38 hm
    · refine cf_aload_n C dX7_meal_25 rfl 0 rfl ?_
      refine cf_iconst C dX7_meal_26 (v := 3) rfl ?_
      refine cf_callVi C [.int 3] [] okM_17.1 (ocell_7 okM_17.2.1) rfl q771 q19 (c_X7_error (vL E) (vG E) 3 _ _  hm) q769 q772 q72 md_X7_error (Nat.le_of_ble_eq_true rfl) (Nat.le_of_ble_eq_true rfl) rfl rfl (Nat.le_of_ble_eq_true rfl) dX7_meal_27 (fun v6 S5 hm => ?_)
      refine cf_goto C (tgt := 38) dX7_meal_30 (by decide) ?_
      exact hR _ _ _ _ dX7_meal_38 hm
  · refine cf_aload_n C dX7_meal_7 rfl 0 rfl ?_
    refine cf_iconst C dX7_meal_8 (v := 1) rfl ?_
    refine cf_callVi C [.int 1] [] okM_17.1 (ocell_7 okM_17.2.1) rfl q771 q19 (c_X7_error (vL E) (vG E) 1 _ _  hm) q769 q772 q72 md_X7_error (Nat.le_of_ble_eq_true rfl) (Nat.le_of_ble_eq_true rfl) rfl rfl (Nat.le_of_ble_eq_true rfl) dX7_meal_9 (fun v8 S7 hm => ?_)
    exact hR _ _ _ _ dX7_meal_12 hm

def L_X7_goes_2    (Q : St → Prop) : Nat → Int32 → Int32 → Int32 → St → Prop
  | 0 => fun _ _ _ _ => False
  | n + 1 => fun x1 x2 x3 S => if x1 ≤ x3 then (Q S) else (E_X7_aMeal x2 S (fun v2 S1 => nmI (x3 + 1) (fun v3 => L_X7_goes_2 Q n x1 x2 v3 S1)))
set_option maxRecDepth 20000 in
theorem w_L_X7_goes_2 {E : EV} {Q : St → Prop}   (C : CX E cX7_goes RX7 5 enM 6 138)   (hR : RTv E cX7_goes Q) : ∀ (n : Nat) (x1 : Int32) (x2 : Int32) (x3 : Int32) (S : St), L_X7_goes_2 Q n x1 x2 x3 S → CF E S 2 [(0, .ref (adr (vG E) 17 0)), (1, .int x1), (2, .int x2), (3, .int x3)] [] := by
  intro n
  induction n with
  | zero =>
    intro x1 x2 x3 S hm
    exact hm.elim
  | succ n ih =>
    intro x1 x2 x3 S hm
    unfold L_X7_goes_2 at hm
    refine cf_iload_n C dX7_goes_2 rfl 3 rfl ?_
    refine cf_iload_n C dX7_goes_3 rfl 1 rfl ?_
    refine cf_icmp_ge C (tgt := 20) dX7_goes_4 (by decide) hm (fun hm => ?_) (fun hm => ?_)
    · exact hR _ _ _ dX7_goes_20 hm
    · refine cf_aload_n C dX7_goes_7 rfl 0 rfl ?_
      refine cf_iload_n C dX7_goes_8 rfl 2 rfl ?_
      refine cf_callVi C [.int x2] [] okM_17.1 (ocell_7 okM_17.2.1) rfl q934 q44 (c_X7_aMeal (vL E) (vG E) x2 _ _  hm) q932 q935 q72 md_X7_aMeal (Nat.le_of_ble_eq_true rfl) (Nat.le_of_ble_eq_true rfl) rfl rfl (Nat.le_of_ble_eq_true rfl) dX7_goes_9 (fun v2 S1 hm => ?_)
      refine cf_istore C (L1 := [(4, .int v2), (0, .ref (adr (vG E) 17 0)), (1, .int x1), (2, .int x2), (3, .int x3)]) dX7_goes_12 (by decide) rfl ?_
      refine cf_iincN C (L1 := fun v3 => [(3, .int v3), (4, .int v2), (0, .ref (adr (vG E) 17 0)), (1, .int x1), (2, .int x2)]) dX7_goes_14 4 rfl rfl (by decide) (fun _ => rfl) hm (fun v3 hm => ?_)
      refine cf_goto C (tgt := 2) dX7_goes_17 (by decide) ?_
      refine cf_sub C [2, 3, 4, 0] rfl ?_
      exact ih x1 x2 v3 _ hm
def E_X7_goes (x1 : Int32) (x2 : Int32) (S : St) (Q : St → Prop) : Prop := ∃ k, L_X7_goes_2 Q k x1 x2 0 S
set_option maxRecDepth 20000 in
theorem c_X7_goes (l : Launch) (G : GX) (x1 : Int32) (x2 : Int32) (S : St) (Q : St → Prop)  (hm : E_X7_goes x1 x2 S Q) : CTv l yX7_goes (Cond.code yX7_goes cX7_goes 5 none :: AW) { frames := 6, cells := 0, slots := 0, locals := 138 } G enM [.ref (adr G 17 0), .int x1, .int x2] S Q := by
  refine ct_start_v (by decide) enM_nd (Nat.le_of_ble_eq_true rfl) (fun E hG hl C hR => ?_)
  subst hG
  subst hl
  show CF E S 0 [(0, .ref (adr (vG E) 17 0)), (1, .int x1), (2, .int x2)] []
  unfold E_X7_goes at hm
  refine cf_iconst C dX7_goes_0 (v := 0) rfl ?_
  refine cf_istore_n C (L1 := [(3, .int 0), (0, .ref (adr (vG E) 17 0)), (1, .int x1), (2, .int x2)]) dX7_goes_1 rfl (by decide) rfl ?_
  refine cf_sub C [1, 2, 3, 0] rfl ?_
  obtain ⟨k, hm⟩ := hm
  exact w_L_X7_goes_2 C hR k x1 x2 0 _ hm

def L_X7_allLeft_4    (Q : Int32 → St → Prop) : Nat → Int32 → Int32 → St → Prop
  | 0 => fun _ _ _ => False
  | n + 1 => fun x1 x2 S => vp_in 5 387 ∧ (if (S.2 17 0 (5 : Int32).toNatClampNeg) ≤ x2 then (Q x1 S) else (E_X7_its x2 2 S (fun v2 S1 => nmI (x1 + v2) (fun v3 => nmI (x2 + 1) (fun v4 => L_X7_allLeft_4 Q n v3 v4 S1)))))
set_option maxRecDepth 20000 in
theorem w_L_X7_allLeft_4 {E : EV} {Q : Int32 → St → Prop}   (C : CX E cX7_allLeft RX7 3 enM 1 22)   (hR : RTi E cX7_allLeft Q) : ∀ (n : Nat) (x1 : Int32) (x2 : Int32) (S : St), L_X7_allLeft_4 Q n x1 x2 S → CF E S 4 [(0, .ref (adr (vG E) 17 0)), (1, .int x1), (2, .int x2)] [] := by
  intro n
  induction n with
  | zero =>
    intro x1 x2 S hm
    exact hm.elim
  | succ n ih =>
    intro x1 x2 S hm
    unfold L_X7_allLeft_4 at hm
    refine cf_iload_n C dX7_allLeft_4 rfl 2 rfl ?_
    refine cf_aload_n C dX7_allLeft_5 rfl 0 rfl ?_
    refine gf_7_0 C inX7 okM_17 q694 dX7_allLeft_6 ?_
    refine cf_iconst C dX7_allLeft_9 (v := 5) rfl ?_
    refine cf_iald C (okA_of 0 okM_17 rfl (by decide) (by decide) (by decide)) dX7_allLeft_10 hm (fun hm => ?_)
    refine cf_icmp_ge C (tgt := 29) dX7_allLeft_11 (by decide) hm (fun hm => ?_) (fun hm => ?_)
    · refine cf_iload_n C dX7_allLeft_29 rfl 1 rfl ?_
      exact hR _ _ _ _ dX7_allLeft_30 hm
    · refine cf_iload_n C dX7_allLeft_14 rfl 1 rfl ?_
      refine cf_aload_n C dX7_allLeft_15 rfl 0 rfl ?_
      refine cf_iload_n C dX7_allLeft_16 rfl 2 rfl ?_
      refine cf_iconst C dX7_allLeft_17 (v := 2) rfl ?_
      refine cf_callVi C [.int x2, .int 2] [.int x1] okM_17.1 (ocell_7 okM_17.2.1) rfl q860 q36 (c_X7_its (vL E) (vG E) x2 2 _ _  hm) q858 q861 q72 md_X7_its (Nat.le_of_ble_eq_true rfl) (Nat.le_of_ble_eq_true rfl) rfl rfl (Nat.le_of_ble_eq_true rfl) dX7_allLeft_18 (fun v2 S1 hm => ?_)
      refine cf_iadd C dX7_allLeft_21 ?_
      refine cf_nmI hm (fun v3 hm => ?_)
      refine cf_istore_n C (L1 := [(1, .int v3), (0, .ref (adr (vG E) 17 0)), (2, .int x2)]) dX7_allLeft_22 rfl (by decide) rfl ?_
      refine cf_iincN C (L1 := fun v4 => [(2, .int v4), (1, .int v3), (0, .ref (adr (vG E) 17 0))]) dX7_allLeft_23 2 rfl rfl (by decide) (fun _ => rfl) hm (fun v4 hm => ?_)
      refine cf_goto C (tgt := 4) dX7_allLeft_26 (by decide) ?_
      refine cf_sub C [2, 1, 0] rfl ?_
      exact ih v3 v4 _ hm
def E_X7_allLeft  (S : St) (Q : Int32 → St → Prop) : Prop := ∃ k, L_X7_allLeft_4 Q k 0 0 S
set_option maxRecDepth 20000 in
theorem c_X7_allLeft (l : Launch) (G : GX)  (S : St) (Q : Int32 → St → Prop)  (hm : E_X7_allLeft  S Q) : CTi l yX7_allLeft (Cond.code yX7_allLeft cX7_allLeft 3 (some .int) :: AW) { frames := 1, cells := 0, slots := 0, locals := 22 } G enM [.ref (adr G 17 0)] S Q := by
  refine ct_start_i (by decide) enM_nd (Nat.le_of_ble_eq_true rfl) (fun E hG hl C hR => ?_)
  subst hG
  subst hl
  show CF E S 0 [(0, .ref (adr (vG E) 17 0))] []
  unfold E_X7_allLeft at hm
  refine cf_iconst C dX7_allLeft_0 (v := 0) rfl ?_
  refine cf_istore_n C (L1 := [(1, .int 0), (0, .ref (adr (vG E) 17 0))]) dX7_allLeft_1 rfl (by decide) rfl ?_
  refine cf_iconst C dX7_allLeft_2 (v := 0) rfl ?_
  refine cf_istore_n C (L1 := [(2, .int 0), (1, .int 0), (0, .ref (adr (vG E) 17 0))]) dX7_allLeft_3 rfl (by decide) rfl ?_
  refine cf_sub C [2, 1, 0] rfl ?_
  obtain ⟨k, hm⟩ := hm
  exact w_L_X7_allLeft_4 C hR k 0 0 _ hm

def E_X7_meals (x1 : Int32) (x2 : Int32) (S : St) (Q : Int32 → St → Prop) : Prop := E_X7_in x1 1 60 S (fun v2 S1 => if v2 = 0 then (E_X7_error 1 S1 (fun v4 S3 => Q v4 S3)) else (E_X7_isHunger x2 S1 (fun v6 S5 => if v6 = 0 then (E_X7_error 1 S5 (fun v13 S12 => Q v13 S12)) else (vp_in 0 387 ∧ (if ((S5.2 17 0 (0 : Int32).toNatClampNeg) + x1) ≤ 9999 then (E_X7_goes x1 x2 S5 (fun S7 => E_X7_allLeft S7 (fun v9 S8 => Q v9 S8))) else (E_X7_error 3 S5 (fun v11 S10 => Q v11 S10)))))))
set_option maxRecDepth 20000 in
theorem c_X7_meals (l : Launch) (G : GX) (x1 : Int32) (x2 : Int32) (S : St) (Q : Int32 → St → Prop)  (hm : E_X7_meals x1 x2 S Q) : CTi l yX7_meals (Cond.code yX7_meals cX7_meals 3 (some .int) :: AW) { frames := 7, cells := 0, slots := 0, locals := 162 } G enM [.ref (adr G 17 0), .int x1, .int x2] S Q := by
  refine ct_start_i (by decide) enM_nd (Nat.le_of_ble_eq_true rfl) (fun E hG hl C hR => ?_)
  subst hG
  subst hl
  show CF E S 0 [(0, .ref (adr (vG E) 17 0)), (1, .int x1), (2, .int x2)] []
  unfold E_X7_meals at hm
  refine cf_iload_n C dX7_meals_0 rfl 1 rfl ?_
  refine cf_iconst C dX7_meals_1 (v := 1) rfl ?_
  refine cf_bipush C dX7_meals_2 (v := 60) rfl ?_
  refine cf_callSi C [.int x1, .int 1, .int 60] [] q767 (c_X7_in (vL E) (vG E) x1 1 60 _ _  hm) q766 q768 q72 md_X7_in (Nat.le_of_ble_eq_true rfl) (Nat.le_of_ble_eq_true rfl) rfl rfl (Nat.le_of_ble_eq_true rfl) dX7_meals_4 (fun v2 S1 hm => ?_)
  refine cf_if_eq C (tgt := 17) dX7_meals_7 (by decide) hm (fun hm => ?_) (fun hm => ?_)
  · refine cf_aload_n C dX7_meals_17 rfl 0 rfl ?_
    refine cf_iconst C dX7_meals_18 (v := 1) rfl ?_
    refine cf_callVi C [.int 1] [] okM_17.1 (ocell_7 okM_17.2.1) rfl q771 q19 (c_X7_error (vL E) (vG E) 1 _ _  hm) q769 q772 q72 md_X7_error (Nat.le_of_ble_eq_true rfl) (Nat.le_of_ble_eq_true rfl) rfl rfl (Nat.le_of_ble_eq_true rfl) dX7_meals_19 (fun v4 S3 hm => ?_)
    exact hR _ _ _ _ dX7_meals_22 hm
  · refine cf_iload_n C dX7_meals_10 rfl 2 rfl ?_
    refine cf_callSi C [.int x2] [] q930 (c_X7_isHunger (vL E) (vG E) x2 _ _  hm) q929 q931 q72 md_X7_isHunger (Nat.le_of_ble_eq_true rfl) (Nat.le_of_ble_eq_true rfl) rfl rfl (Nat.le_of_ble_eq_true rfl) dX7_meals_11 (fun v6 S5 hm => ?_)
    refine cf_if_ne C (tgt := 23) dX7_meals_14 (by decide) hm (fun hm => ?_) (fun hm => ?_)
    · refine cf_aload_n C dX7_meals_23 rfl 0 rfl ?_
      refine gf_7_0 C inX7 okM_17 q694 dX7_meals_24 ?_
      refine cf_iconst C dX7_meals_27 (v := 0) rfl ?_
      refine cf_iald C (okA_of 0 okM_17 rfl (by decide) (by decide) (by decide)) dX7_meals_28 hm (fun hm => ?_)
      refine cf_iload_n C dX7_meals_29 rfl 1 rfl ?_
      refine cf_iadd C dX7_meals_30 ?_
      refine cf_sipush C dX7_meals_31 (v := 9999) rfl ?_
      refine cf_icmp_le C (tgt := 43) dX7_meals_34 (by decide) hm (fun hm => ?_) (fun hm => ?_)
      · refine cf_aload_n C dX7_meals_43 rfl 0 rfl ?_
        refine cf_iload_n C dX7_meals_44 rfl 1 rfl ?_
        refine cf_iload_n C dX7_meals_45 rfl 2 rfl ?_
        refine cf_callVv C [.int x1, .int x2] [] okM_17.1 (ocell_7 okM_17.2.1) rfl q951 q47 (c_X7_goes (vL E) (vG E) x1 x2 _ _  hm) q949 q952 q72 md_X7_goes (Nat.le_of_ble_eq_true rfl) (Nat.le_of_ble_eq_true rfl) rfl rfl (Nat.le_of_ble_eq_true rfl) dX7_meals_46 (fun S7 hm => ?_)
        refine cf_aload_n C dX7_meals_49 rfl 0 rfl ?_
        refine cf_callVi C [] [] okM_17.1 (ocell_7 okM_17.2.1) rfl q955 q48 (c_X7_allLeft (vL E) (vG E)  _ _  hm) q953 q956 q72 md_X7_allLeft (Nat.le_of_ble_eq_true rfl) (Nat.le_of_ble_eq_true rfl) rfl rfl (Nat.le_of_ble_eq_true rfl) dX7_meals_50 (fun v9 S8 hm => ?_)
        exact hR _ _ _ _ dX7_meals_53 hm
      · refine cf_aload_n C dX7_meals_37 rfl 0 rfl ?_
        refine cf_iconst C dX7_meals_38 (v := 3) rfl ?_
        refine cf_callVi C [.int 3] [] okM_17.1 (ocell_7 okM_17.2.1) rfl q771 q19 (c_X7_error (vL E) (vG E) 3 _ _  hm) q769 q772 q72 md_X7_error (Nat.le_of_ble_eq_true rfl) (Nat.le_of_ble_eq_true rfl) rfl rfl (Nat.le_of_ble_eq_true rfl) dX7_meals_39 (fun v11 S10 hm => ?_)
        exact hR _ _ _ _ dX7_meals_42 hm
    · refine cf_aload_n C dX7_meals_17 rfl 0 rfl ?_
      refine cf_iconst C dX7_meals_18 (v := 1) rfl ?_
      refine cf_callVi C [.int 1] [] okM_17.1 (ocell_7 okM_17.2.1) rfl q771 q19 (c_X7_error (vL E) (vG E) 1 _ _  hm) q769 q772 q72 md_X7_error (Nat.le_of_ble_eq_true rfl) (Nat.le_of_ble_eq_true rfl) rfl rfl (Nat.le_of_ble_eq_true rfl) dX7_meals_19 (fun v13 S12 hm => ?_)
      exact hR _ _ _ _ dX7_meals_22 hm

def E_X7_draw  (S : St) (Q : Int32 → St → Prop) : Prop := vp_in 2 387 ∧ (vp_in 2 387 ∧ (nmS (stR S 17 0 (upd (S.2 17 0) (2 : Int32).toNatClampNeg (((S.2 17 0 (2 : Int32).toNatClampNeg) * 1103515245) + 12345))) (fun S1 => vp_in 2 387 ∧ (Q (((S1.2 17 0 (2 : Int32).toNatClampNeg).toUInt32 >>> ((8 : Int32).toUInt32 &&& Int32.toUInt32 31)).toInt32) S1))))
set_option maxRecDepth 20000 in
theorem c_X7_draw (l : Launch) (G : GX)  (S : St) (Q : Int32 → St → Prop)  (hm : E_X7_draw  S Q) : CTi l yX7_draw (Cond.code yX7_draw cX7_draw 1 (some .int) :: AW) { frames := 0, cells := 0, slots := 0, locals := 0 } G enM [.ref (adr G 17 0)] S Q := by
  refine ct_start_i (by decide) enM_nd (Nat.le_of_ble_eq_true rfl) (fun E hG hl C hR => ?_)
  subst hG
  subst hl
  show CF E S 0 [(0, .ref (adr (vG E) 17 0))] []
  unfold E_X7_draw at hm
  refine cf_aload_n C dX7_draw_0 rfl 0 rfl ?_
  refine gf_7_0 C inX7 okM_17 q694 dX7_draw_1 ?_
  refine cf_iconst C dX7_draw_4 (v := 2) rfl ?_
  refine cf_aload_n C dX7_draw_5 rfl 0 rfl ?_
  refine gf_7_0 C inX7 okM_17 q694 dX7_draw_6 ?_
  refine cf_iconst C dX7_draw_9 (v := 2) rfl ?_
  refine cf_iald C (okA_of 0 okM_17 rfl (by decide) (by decide) (by decide)) dX7_draw_10 hm (fun hm => ?_)
  refine cf_ldc C dX7_draw_11 q969 ?_
  refine cf_imul C dX7_draw_13 ?_
  refine cf_sipush C dX7_draw_14 (v := 12345) rfl ?_
  refine cf_iadd C dX7_draw_17 ?_
  refine cf_iast C (okA_of 0 okM_17 rfl (by decide) (by decide) (by decide)) dX7_draw_18 hm (fun hm => ?_)
  refine cf_nmS hm (fun S1 hm => ?_)
  refine cf_aload_n C dX7_draw_19 rfl 0 rfl ?_
  refine gf_7_0 C inX7 okM_17 q694 dX7_draw_20 ?_
  refine cf_iconst C dX7_draw_23 (v := 2) rfl ?_
  refine cf_iald C (okA_of 0 okM_17 rfl (by decide) (by decide) (by decide)) dX7_draw_24 hm (fun hm => ?_)
  refine cf_bipush C dX7_draw_25 (v := 8) rfl ?_
  refine cf_iushr C dX7_draw_27 ?_
  exact hR _ _ _ _ dX7_draw_28 hm

def E_X7_guests  (S : St) (Q : St → Prop) : Prop := vp_in 5 387 ∧ (if (S.2 17 0 (5 : Int32).toNatClampNeg) ≤ 0 then (Q S) else (E_X7_draw S (fun v2 S1 => if (v2 - v2 / 4 * 4) = 0 then (E_X7_draw S1 (fun v4 S3 => vp_in 5 387 ∧ ((¬ (S3.2 17 0 (5 : Int32).toNatClampNeg) = 0) ∧ (nmI (v4 - v4 / (S3.2 17 0 (5 : Int32).toNatClampNeg) * (S3.2 17 0 (5 : Int32).toNatClampNeg)) (fun v5 => E_X7_its v5 2 S3 (fun v7 S6 => E_X7_draw S6 (fun v9 S8 => E_X7_held (v7 + (v9 - v9 / 20 * 20)) 0 99 S8 (fun v11 S10 => E_X7_lays1 v5 2 v11 S10 (fun S12 => Q S12))))))))) else (Q S1))))
set_option maxRecDepth 20000 in
theorem c_X7_guests (l : Launch) (G : GX)  (S : St) (Q : St → Prop)  (hm : E_X7_guests  S Q) : CTv l yX7_guests (Cond.code yX7_guests cX7_guests 2 none :: AW) { frames := 1, cells := 0, slots := 0, locals := 23 } G enM [.ref (adr G 17 0)] S Q := by
  refine ct_start_v (by decide) enM_nd (Nat.le_of_ble_eq_true rfl) (fun E hG hl C hR => ?_)
  subst hG
  subst hl
  show CF E S 0 [(0, .ref (adr (vG E) 17 0))] []
  unfold E_X7_guests at hm
  refine cf_aload_n C dX7_guests_0 rfl 0 rfl ?_
  refine gf_7_0 C inX7 okM_17 q694 dX7_guests_1 ?_
  refine cf_iconst C dX7_guests_4 (v := 5) rfl ?_
  refine cf_iald C (okA_of 0 okM_17 rfl (by decide) (by decide) (by decide)) dX7_guests_5 hm (fun hm => ?_)
  refine cf_if_le C (tgt := 56) dX7_guests_6 (by decide) hm (fun hm => ?_) (fun hm => ?_)
  · exact hR _ _ _ dX7_guests_56 hm
  · refine cf_aload_n C dX7_guests_9 rfl 0 rfl ?_
    refine cf_callVi C [] [] okM_17.1 (ocell_7 okM_17.2.1) rfl q967 q50 (c_X7_draw (vL E) (vG E)  _ _  hm) q965 q968 q72 md_X7_draw (Nat.le_of_ble_eq_true rfl) (Nat.le_of_ble_eq_true rfl) rfl rfl (Nat.le_of_ble_eq_true rfl) dX7_guests_10 (fun v2 S1 hm => ?_)
    refine cf_iconst C dX7_guests_13 (v := 4) rfl ?_
    refine cf_iremC C dX7_guests_14 (by decide) ?_
    refine cf_if_ne C (tgt := 56) dX7_guests_15 (by decide) hm (fun hm => ?_) (fun hm => ?_)
    · exact hR _ _ _ dX7_guests_56 hm
    · refine cf_aload_n C dX7_guests_18 rfl 0 rfl ?_
      refine cf_callVi C [] [] okM_17.1 (ocell_7 okM_17.2.1) rfl q967 q50 (c_X7_draw (vL E) (vG E)  _ _  hm) q965 q968 q72 md_X7_draw (Nat.le_of_ble_eq_true rfl) (Nat.le_of_ble_eq_true rfl) rfl rfl (Nat.le_of_ble_eq_true rfl) dX7_guests_19 (fun v4 S3 hm => ?_)
      refine cf_aload_n C dX7_guests_22 rfl 0 rfl ?_
      refine gf_7_0 C inX7 okM_17 q694 dX7_guests_23 ?_
      refine cf_iconst C dX7_guests_26 (v := 5) rfl ?_
      refine cf_iald C (okA_of 0 okM_17 rfl (by decide) (by decide) (by decide)) dX7_guests_27 hm (fun hm => ?_)
      refine cf_irem C dX7_guests_28 hm (fun hm => ?_)
      refine cf_nmI hm (fun v5 hm => ?_)
      refine cf_istore_n C (L1 := [(1, .int v5), (0, .ref (adr (vG E) 17 0))]) dX7_guests_29 rfl (by decide) rfl ?_
      refine cf_aload_n C dX7_guests_30 rfl 1 rfl ?_
      refine cf_iload_n C dX7_guests_31 rfl 0 rfl ?_
      refine cf_iconst C dX7_guests_32 (v := 2) rfl ?_
      refine cf_aload_n C dX7_guests_33 rfl 1 rfl ?_
      refine cf_iload_n C dX7_guests_34 rfl 0 rfl ?_
      refine cf_iconst C dX7_guests_35 (v := 2) rfl ?_
      refine cf_callVi C [.int v5, .int 2] [.int 2, .int v5, .ref (adr (vG E) 17 0)] okM_17.1 (ocell_7 okM_17.2.1) rfl q860 q36 (c_X7_its (vL E) (vG E) v5 2 _ _  hm) q858 q861 q72 md_X7_its (Nat.le_of_ble_eq_true rfl) (Nat.le_of_ble_eq_true rfl) rfl rfl (Nat.le_of_ble_eq_true rfl) dX7_guests_36 (fun v7 S6 hm => ?_)
      refine cf_aload_n C dX7_guests_39 rfl 1 rfl ?_
      refine cf_callVi C [] [.int v7, .int 2, .int v5, .ref (adr (vG E) 17 0)] okM_17.1 (ocell_7 okM_17.2.1) rfl q967 q50 (c_X7_draw (vL E) (vG E)  _ _  hm) q965 q968 q72 md_X7_draw (Nat.le_of_ble_eq_true rfl) (Nat.le_of_ble_eq_true rfl) rfl rfl (Nat.le_of_ble_eq_true rfl) dX7_guests_40 (fun v9 S8 hm => ?_)
      refine cf_bipush C dX7_guests_43 (v := 20) rfl ?_
      refine cf_iremC C dX7_guests_45 (by decide) ?_
      refine cf_iadd C dX7_guests_46 ?_
      refine cf_iconst C dX7_guests_47 (v := 0) rfl ?_
      refine cf_bipush C dX7_guests_48 (v := 99) rfl ?_
      refine cf_callSi C [.int (v7 + (v9 - v9 / 20 * 20)), .int 0, .int 99] [.int 2, .int v5, .ref (adr (vG E) 17 0)] q874 (c_X7_held (vL E) (vG E) (v7 + (v9 - v9 / 20 * 20)) 0 99 _ _  hm) q873 q875 q72 md_X7_held (Nat.le_of_ble_eq_true rfl) (Nat.le_of_ble_eq_true rfl) rfl rfl (Nat.le_of_ble_eq_true rfl) dX7_guests_50 (fun v11 S10 hm => ?_)
      refine cf_callVv C [.int v5, .int 2, .int v11] [] okM_17.1 (ocell_7 okM_17.2.1) rfl q840 q32 (c_X7_lays1 (vL E) (vG E) v5 2 v11 _ _  hm) q838 q841 q72 md_X7_lays1 (Nat.le_of_ble_eq_true rfl) (Nat.le_of_ble_eq_true rfl) rfl rfl (Nat.le_of_ble_eq_true rfl) dX7_guests_53 (fun S12 hm => ?_)
      exact hR _ _ _ dX7_guests_56 hm

def L_X7_loose_40    (Q : Int32 → St → Prop) : Nat → Int32 → Int32 → Int32 → St → Prop
  | 0 => fun _ _ _ _ => False
  | n + 1 => fun x1 x2 x3 S => if x1 ≤ x3 then (Q x2 S) else (E_X7_guests S (fun S3 => E_X7_draw S3 (fun v5 S4 => E_X7_aMeal (v5 - v5 / 30 * 30) S4 (fun v7 S6 => nmI (x2 + v7) (fun v8 => nmI (x3 + 1) (fun v9 => L_X7_loose_40 Q n x1 v8 v9 S6))))))
set_option maxRecDepth 20000 in
theorem w_L_X7_loose_40 {E : EV} {Q : Int32 → St → Prop}   (C : CX E cX7_loose RX7 4 enM 6 138)   (hR : RTi E cX7_loose Q) : ∀ (n : Nat) (x1 : Int32) (x2 : Int32) (x3 : Int32) (S : St), L_X7_loose_40 Q n x1 x2 x3 S → CF E S 40 [(0, .ref (adr (vG E) 17 0)), (1, .int x1), (2, .int x2), (3, .int x3)] [] := by
  intro n
  induction n with
  | zero =>
    intro x1 x2 x3 S hm
    exact hm.elim
  | succ n ih =>
    intro x1 x2 x3 S hm
    unfold L_X7_loose_40 at hm
    refine cf_iload_n C dX7_loose_40 rfl 3 rfl ?_
    refine cf_iload_n C dX7_loose_41 rfl 1 rfl ?_
    refine cf_icmp_ge C (tgt := 69) dX7_loose_42 (by decide) hm (fun hm => ?_) (fun hm => ?_)
    · refine cf_iload_n C dX7_loose_69 rfl 2 rfl ?_
      exact hR _ _ _ _ dX7_loose_70 hm
    · refine cf_aload_n C dX7_loose_45 rfl 0 rfl ?_
      refine cf_callVv C [] [] okM_17.1 (ocell_7 okM_17.2.1) rfl q963 q49 (c_X7_guests (vL E) (vG E)  _ _  hm) q961 q964 q72 md_X7_guests (Nat.le_of_ble_eq_true rfl) (Nat.le_of_ble_eq_true rfl) rfl rfl (Nat.le_of_ble_eq_true rfl) dX7_loose_46 (fun S3 hm => ?_)
      refine cf_iload_n C dX7_loose_49 rfl 2 rfl ?_
      refine cf_aload_n C dX7_loose_50 rfl 0 rfl ?_
      refine cf_aload_n C dX7_loose_51 rfl 0 rfl ?_
      refine cf_callVi C [] [.ref (adr (vG E) 17 0), .int x2] okM_17.1 (ocell_7 okM_17.2.1) rfl q967 q50 (c_X7_draw (vL E) (vG E)  _ _  hm) q965 q968 q72 md_X7_draw (Nat.le_of_ble_eq_true rfl) (Nat.le_of_ble_eq_true rfl) rfl rfl (Nat.le_of_ble_eq_true rfl) dX7_loose_52 (fun v5 S4 hm => ?_)
      refine cf_bipush C dX7_loose_55 (v := 30) rfl ?_
      refine cf_iremC C dX7_loose_57 (by decide) ?_
      refine cf_callVi C [.int (v5 - v5 / 30 * 30)] [.int x2] okM_17.1 (ocell_7 okM_17.2.1) rfl q934 q44 (c_X7_aMeal (vL E) (vG E) (v5 - v5 / 30 * 30) _ _  hm) q932 q935 q72 md_X7_aMeal (Nat.le_of_ble_eq_true rfl) (Nat.le_of_ble_eq_true rfl) rfl rfl (Nat.le_of_ble_eq_true rfl) dX7_loose_58 (fun v7 S6 hm => ?_)
      refine cf_iadd C dX7_loose_61 ?_
      refine cf_nmI hm (fun v8 hm => ?_)
      refine cf_istore_n C (L1 := [(2, .int v8), (0, .ref (adr (vG E) 17 0)), (1, .int x1), (3, .int x3)]) dX7_loose_62 rfl (by decide) rfl ?_
      refine cf_iincN C (L1 := fun v9 => [(3, .int v9), (2, .int v8), (0, .ref (adr (vG E) 17 0)), (1, .int x1)]) dX7_loose_63 3 rfl rfl (by decide) (fun _ => rfl) hm (fun v9 hm => ?_)
      refine cf_goto C (tgt := 40) dX7_loose_66 (by decide) ?_
      refine cf_sub C [2, 3, 1, 0] rfl ?_
      exact ih x1 v8 v9 _ hm
def E_X7_loose (x1 : Int32) (S : St) (Q : Int32 → St → Prop) : Prop := E_X7_in x1 1 30 S (fun v2 S1 => if v2 = 0 then (E_X7_error 1 S1 (fun v13 S12 => Q v13 S12)) else (vp_in 0 387 ∧ (if ((S1.2 17 0 (0 : Int32).toNatClampNeg) + x1) ≤ 9999 then (∃ k, L_X7_loose_40 Q k x1 0 0 S1) else (E_X7_error 3 S1 (fun v11 S10 => Q v11 S10)))))
set_option maxRecDepth 20000 in
theorem c_X7_loose (l : Launch) (G : GX) (x1 : Int32) (S : St) (Q : Int32 → St → Prop)  (hm : E_X7_loose x1 S Q) : CTi l yX7_loose (Cond.code yX7_loose cX7_loose 4 (some .int) :: AW) { frames := 6, cells := 0, slots := 0, locals := 138 } G enM [.ref (adr G 17 0), .int x1] S Q := by
  refine ct_start_i (by decide) enM_nd (Nat.le_of_ble_eq_true rfl) (fun E hG hl C hR => ?_)
  subst hG
  subst hl
  show CF E S 0 [(0, .ref (adr (vG E) 17 0)), (1, .int x1)] []
  unfold E_X7_loose at hm
  refine cf_iload_n C dX7_loose_0 rfl 1 rfl ?_
  refine cf_iconst C dX7_loose_1 (v := 1) rfl ?_
  refine cf_bipush C dX7_loose_2 (v := 30) rfl ?_
  refine cf_callSi C [.int x1, .int 1, .int 30] [] q767 (c_X7_in (vL E) (vG E) x1 1 30 _ _  hm) q766 q768 q72 md_X7_in (Nat.le_of_ble_eq_true rfl) (Nat.le_of_ble_eq_true rfl) rfl rfl (Nat.le_of_ble_eq_true rfl) dX7_loose_4 (fun v2 S1 hm => ?_)
  refine cf_if_ne C (tgt := 16) dX7_loose_7 (by decide) hm (fun hm => ?_) (fun hm => ?_)
  · refine cf_aload_n C dX7_loose_16 rfl 0 rfl ?_
    refine gf_7_0 C inX7 okM_17 q694 dX7_loose_17 ?_
    refine cf_iconst C dX7_loose_20 (v := 0) rfl ?_
    refine cf_iald C (okA_of 0 okM_17 rfl (by decide) (by decide) (by decide)) dX7_loose_21 hm (fun hm => ?_)
    refine cf_iload_n C dX7_loose_22 rfl 1 rfl ?_
    refine cf_iadd C dX7_loose_23 ?_
    refine cf_sipush C dX7_loose_24 (v := 9999) rfl ?_
    refine cf_icmp_le C (tgt := 36) dX7_loose_27 (by decide) hm (fun hm => ?_) (fun hm => ?_)
    · refine cf_iconst C dX7_loose_36 (v := 0) rfl ?_
      refine cf_istore_n C (L1 := [(2, .int 0), (0, .ref (adr (vG E) 17 0)), (1, .int x1)]) dX7_loose_37 rfl (by decide) rfl ?_
      refine cf_iconst C dX7_loose_38 (v := 0) rfl ?_
      refine cf_istore_n C (L1 := [(3, .int 0), (2, .int 0), (0, .ref (adr (vG E) 17 0)), (1, .int x1)]) dX7_loose_39 rfl (by decide) rfl ?_
      refine cf_sub C [2, 3, 1, 0] rfl ?_
      obtain ⟨k, hm⟩ := hm
      exact w_L_X7_loose_40 C hR k x1 0 0 _ hm
    · refine cf_aload_n C dX7_loose_30 rfl 0 rfl ?_
      refine cf_iconst C dX7_loose_31 (v := 3) rfl ?_
      refine cf_callVi C [.int 3] [] okM_17.1 (ocell_7 okM_17.2.1) rfl q771 q19 (c_X7_error (vL E) (vG E) 3 _ _  hm) q769 q772 q72 md_X7_error (Nat.le_of_ble_eq_true rfl) (Nat.le_of_ble_eq_true rfl) rfl rfl (Nat.le_of_ble_eq_true rfl) dX7_loose_32 (fun v11 S10 hm => ?_)
      exact hR _ _ _ _ dX7_loose_35 hm
  · refine cf_aload_n C dX7_loose_10 rfl 0 rfl ?_
    refine cf_iconst C dX7_loose_11 (v := 1) rfl ?_
    refine cf_callVi C [.int 1] [] okM_17.1 (ocell_7 okM_17.2.1) rfl q771 q19 (c_X7_error (vL E) (vG E) 1 _ _  hm) q769 q772 q72 md_X7_error (Nat.le_of_ble_eq_true rfl) (Nat.le_of_ble_eq_true rfl) rfl rfl (Nat.le_of_ble_eq_true rfl) dX7_loose_12 (fun v13 S12 hm => ?_)
    exact hR _ _ _ _ dX7_loose_15 hm

def E_X7_seed (x1 : Int32) (S : St) (Q : Int32 → St → Prop) : Prop := E_X7_change1 2 x1 S (fun v2 S1 => Q v2 S1)
set_option maxRecDepth 20000 in
theorem c_X7_seed (l : Launch) (G : GX) (x1 : Int32) (S : St) (Q : Int32 → St → Prop)  (hm : E_X7_seed x1 S Q) : CTi l yX7_seed (Cond.code yX7_seed cX7_seed 2 (some .int) :: AW) { frames := 1, cells := 0, slots := 0, locals := 23 } G enM [.ref (adr G 17 0), .int x1] S Q := by
  refine ct_start_i (by decide) enM_nd (Nat.le_of_ble_eq_true rfl) (fun E hG hl C hR => ?_)
  subst hG
  subst hl
  show CF E S 0 [(0, .ref (adr (vG E) 17 0)), (1, .int x1)] []
  unfold E_X7_seed at hm
  refine cf_aload_n C dX7_seed_0 rfl 0 rfl ?_
  refine cf_iconst C dX7_seed_1 (v := 2) rfl ?_
  refine cf_iload_n C dX7_seed_2 rfl 1 rfl ?_
  refine cf_callVi C [.int 2, .int x1] [] okM_17.1 (ocell_7 okM_17.2.1) rfl q900 q43 (c_X7_change1 (vL E) (vG E) 2 x1 _ _  hm) q898 q901 q72 md_X7_change1 (Nat.le_of_ble_eq_true rfl) (Nat.le_of_ble_eq_true rfl) rfl rfl (Nat.le_of_ble_eq_true rfl) dX7_seed_3 (fun v2 S1 hm => ?_)
  exact hR _ _ _ _ dX7_seed_6 hm

def L_X7_layDown_2    (Q : St → Prop) : Nat → Int32 → St → Prop
  | 0 => fun _ _ => False
  | n + 1 => fun x1 S => if 53 ≤ x1 then (Q S) else (vp_in x1 387 ∧ (vp_in x1 53 ∧ (nmS (stR S 17 2 (upd (S.2 17 2) x1.toNatClampNeg (S.2 17 0 x1.toNatClampNeg))) (fun S1 => nmI (x1 + 1) (fun v2 => L_X7_layDown_2 Q n v2 S1)))))
set_option maxRecDepth 20000 in
theorem w_L_X7_layDown_2 {E : EV} {Q : St → Prop}   (C : CX E cX7_layDown RX7 2 enM 0 0)   (hR : RTv E cX7_layDown Q) : ∀ (n : Nat) (x1 : Int32) (S : St), L_X7_layDown_2 Q n x1 S → CF E S 2 [(0, .ref (adr (vG E) 17 0)), (1, .int x1)] [] := by
  intro n
  induction n with
  | zero =>
    intro x1 S hm
    exact hm.elim
  | succ n ih =>
    intro x1 S hm
    unfold L_X7_layDown_2 at hm
    refine cf_iload_n C dX7_layDown_2 rfl 1 rfl ?_
    refine cf_bipush C dX7_layDown_3 (v := 53) rfl ?_
    refine cf_icmp_ge C (tgt := 26) dX7_layDown_5 (by decide) hm (fun hm => ?_) (fun hm => ?_)
    · exact hR _ _ _ dX7_layDown_26 hm
    · refine cf_aload_n C dX7_layDown_8 rfl 0 rfl ?_
      refine gf_7_2 C inX7 okM_17 q696 dX7_layDown_9 ?_
      refine cf_iload_n C dX7_layDown_12 rfl 1 rfl ?_
      refine cf_aload_n C dX7_layDown_13 rfl 0 rfl ?_
      refine gf_7_0 C inX7 okM_17 q694 dX7_layDown_14 ?_
      refine cf_iload_n C dX7_layDown_17 rfl 1 rfl ?_
      refine cf_iald C (okA_of 0 okM_17 rfl (by decide) (by decide) (by decide)) dX7_layDown_18 hm (fun hm => ?_)
      refine cf_iast C (okA_of 2 okM_17 rfl (by decide) (by decide) (by decide)) dX7_layDown_19 hm (fun hm => ?_)
      refine cf_nmS hm (fun S1 hm => ?_)
      refine cf_iincN C (L1 := fun v2 => [(1, .int v2), (0, .ref (adr (vG E) 17 0))]) dX7_layDown_20 1 rfl rfl (by decide) (fun _ => rfl) hm (fun v2 hm => ?_)
      refine cf_goto C (tgt := 2) dX7_layDown_23 (by decide) ?_
      refine cf_sub C [1, 0] rfl ?_
      exact ih v2 _ hm
def E_X7_layDown  (S : St) (Q : St → Prop) : Prop := ∃ k, L_X7_layDown_2 Q k 0 S
set_option maxRecDepth 20000 in
theorem c_X7_layDown (l : Launch) (G : GX)  (S : St) (Q : St → Prop)  (hm : E_X7_layDown  S Q) : CTv l yX7_layDown (Cond.code yX7_layDown cX7_layDown 2 none :: AW) { frames := 0, cells := 0, slots := 0, locals := 0 } G enM [.ref (adr G 17 0)] S Q := by
  refine ct_start_v (by decide) enM_nd (Nat.le_of_ble_eq_true rfl) (fun E hG hl C hR => ?_)
  subst hG
  subst hl
  show CF E S 0 [(0, .ref (adr (vG E) 17 0))] []
  unfold E_X7_layDown at hm
  refine cf_iconst C dX7_layDown_0 (v := 0) rfl ?_
  refine cf_istore_n C (L1 := [(1, .int 0), (0, .ref (adr (vG E) 17 0))]) dX7_layDown_1 rfl (by decide) rfl ?_
  refine cf_sub C [1, 0] rfl ?_
  obtain ⟨k, hm⟩ := hm
  exact w_L_X7_layDown_2 C hR k 0 _ hm

def L_X7_layBack_2    (Q : St → Prop) : Nat → Int32 → St → Prop
  | 0 => fun _ _ => False
  | n + 1 => fun x1 S => if 53 ≤ x1 then (Q S) else (vp_in x1 53 ∧ (vp_in x1 387 ∧ (nmS (stR S 17 0 (upd (S.2 17 0) x1.toNatClampNeg (S.2 17 2 x1.toNatClampNeg))) (fun S1 => nmI (x1 + 1) (fun v2 => L_X7_layBack_2 Q n v2 S1)))))
set_option maxRecDepth 20000 in
theorem w_L_X7_layBack_2 {E : EV} {Q : St → Prop}   (C : CX E cX7_layBack RX7 2 enM 0 0)   (hR : RTv E cX7_layBack Q) : ∀ (n : Nat) (x1 : Int32) (S : St), L_X7_layBack_2 Q n x1 S → CF E S 2 [(0, .ref (adr (vG E) 17 0)), (1, .int x1)] [] := by
  intro n
  induction n with
  | zero =>
    intro x1 S hm
    exact hm.elim
  | succ n ih =>
    intro x1 S hm
    unfold L_X7_layBack_2 at hm
    refine cf_iload_n C dX7_layBack_2 rfl 1 rfl ?_
    refine cf_bipush C dX7_layBack_3 (v := 53) rfl ?_
    refine cf_icmp_ge C (tgt := 26) dX7_layBack_5 (by decide) hm (fun hm => ?_) (fun hm => ?_)
    · exact hR _ _ _ dX7_layBack_26 hm
    · refine cf_aload_n C dX7_layBack_8 rfl 0 rfl ?_
      refine gf_7_0 C inX7 okM_17 q694 dX7_layBack_9 ?_
      refine cf_iload_n C dX7_layBack_12 rfl 1 rfl ?_
      refine cf_aload_n C dX7_layBack_13 rfl 0 rfl ?_
      refine gf_7_2 C inX7 okM_17 q696 dX7_layBack_14 ?_
      refine cf_iload_n C dX7_layBack_17 rfl 1 rfl ?_
      refine cf_iald C (okA_of 2 okM_17 rfl (by decide) (by decide) (by decide)) dX7_layBack_18 hm (fun hm => ?_)
      refine cf_iast C (okA_of 0 okM_17 rfl (by decide) (by decide) (by decide)) dX7_layBack_19 hm (fun hm => ?_)
      refine cf_nmS hm (fun S1 hm => ?_)
      refine cf_iincN C (L1 := fun v2 => [(1, .int v2), (0, .ref (adr (vG E) 17 0))]) dX7_layBack_20 1 rfl rfl (by decide) (fun _ => rfl) hm (fun v2 hm => ?_)
      refine cf_goto C (tgt := 2) dX7_layBack_23 (by decide) ?_
      refine cf_sub C [1, 0] rfl ?_
      exact ih v2 _ hm
def E_X7_layBack  (S : St) (Q : St → Prop) : Prop := ∃ k, L_X7_layBack_2 Q k 0 S
set_option maxRecDepth 20000 in
theorem c_X7_layBack (l : Launch) (G : GX)  (S : St) (Q : St → Prop)  (hm : E_X7_layBack  S Q) : CTv l yX7_layBack (Cond.code yX7_layBack cX7_layBack 2 none :: AW) { frames := 0, cells := 0, slots := 0, locals := 0 } G enM [.ref (adr G 17 0)] S Q := by
  refine ct_start_v (by decide) enM_nd (Nat.le_of_ble_eq_true rfl) (fun E hG hl C hR => ?_)
  subst hG
  subst hl
  show CF E S 0 [(0, .ref (adr (vG E) 17 0))] []
  unfold E_X7_layBack at hm
  refine cf_iconst C dX7_layBack_0 (v := 0) rfl ?_
  refine cf_istore_n C (L1 := [(1, .int 0), (0, .ref (adr (vG E) 17 0))]) dX7_layBack_1 rfl (by decide) rfl ?_
  refine cf_sub C [1, 0] rfl ?_
  obtain ⟨k, hm⟩ := hm
  exact w_L_X7_layBack_2 C hR k 0 _ hm

def E_X7_then (x1 : Int32) (x2 : Int32) (x3 : Int32) (S : St) (Q : Int32 → St → Prop) : Prop := E_X7_in x1 0 60 S (fun v2 S1 => if v2 = 0 then (E_X7_error 1 S1 (fun v4 S3 => Q v4 S3)) else (E_X7_isHunger x2 S1 (fun v6 S5 => if v6 = 0 then (E_X7_error 1 S5 (fun v8 S7 => Q v8 S7)) else (E_X7_in x3 0 1 S5 (fun v10 S9 => if v10 = 0 then (E_X7_error 1 S9 (fun v20 S19 => Q v20 S19)) else (E_X7_layDown S9 (fun S11 => E_X7_goes x1 x2 S11 (fun S12 => if x3 = 0 then (E_X7_allLeft S12 (fun v17 S16 => E_X7_layBack S16 (fun S18 => Q v17 S18))) else (E_X7_findRuler S12 (fun v14 S13 => E_X7_layBack S13 (fun S15 => Q v14 S15)))))))))))
set_option maxRecDepth 20000 in
theorem c_X7_then (l : Launch) (G : GX) (x1 : Int32) (x2 : Int32) (x3 : Int32) (S : St) (Q : Int32 → St → Prop)  (hm : E_X7_then x1 x2 x3 S Q) : CTi l yX7_then (Cond.code yX7_then cX7_then 5 (some .int) :: AW) { frames := 7, cells := 0, slots := 0, locals := 162 } G enM [.ref (adr G 17 0), .int x1, .int x2, .int x3] S Q := by
  refine ct_start_i (by decide) enM_nd (Nat.le_of_ble_eq_true rfl) (fun E hG hl C hR => ?_)
  subst hG
  subst hl
  show CF E S 0 [(0, .ref (adr (vG E) 17 0)), (1, .int x1), (2, .int x2), (3, .int x3)] []
  unfold E_X7_then at hm
  refine cf_iload_n C dX7_then_0 rfl 1 rfl ?_
  refine cf_iconst C dX7_then_1 (v := 0) rfl ?_
  refine cf_bipush C dX7_then_2 (v := 60) rfl ?_
  refine cf_callSi C [.int x1, .int 0, .int 60] [] q767 (c_X7_in (vL E) (vG E) x1 0 60 _ _  hm) q766 q768 q72 md_X7_in (Nat.le_of_ble_eq_true rfl) (Nat.le_of_ble_eq_true rfl) rfl rfl (Nat.le_of_ble_eq_true rfl) dX7_then_4 (fun v2 S1 hm => ?_)
  refine cf_if_eq C (tgt := 26) dX7_then_7 (by decide) hm (fun hm => ?_) (fun hm => ?_)
  · refine cf_aload_n C dX7_then_26 rfl 0 rfl ?_
    refine cf_iconst C dX7_then_27 (v := 1) rfl ?_
    refine cf_callVi C [.int 1] [] okM_17.1 (ocell_7 okM_17.2.1) rfl q771 q19 (c_X7_error (vL E) (vG E) 1 _ _  hm) q769 q772 q72 md_X7_error (Nat.le_of_ble_eq_true rfl) (Nat.le_of_ble_eq_true rfl) rfl rfl (Nat.le_of_ble_eq_true rfl) dX7_then_28 (fun v4 S3 hm => ?_)
    exact hR _ _ _ _ dX7_then_31 hm
  · refine cf_iload_n C dX7_then_10 rfl 2 rfl ?_
    refine cf_callSi C [.int x2] [] q930 (c_X7_isHunger (vL E) (vG E) x2 _ _  hm) q929 q931 q72 md_X7_isHunger (Nat.le_of_ble_eq_true rfl) (Nat.le_of_ble_eq_true rfl) rfl rfl (Nat.le_of_ble_eq_true rfl) dX7_then_11 (fun v6 S5 hm => ?_)
    refine cf_if_eq C (tgt := 26) dX7_then_14 (by decide) hm (fun hm => ?_) (fun hm => ?_)
    · refine cf_aload_n C dX7_then_26 rfl 0 rfl ?_
      refine cf_iconst C dX7_then_27 (v := 1) rfl ?_
      refine cf_callVi C [.int 1] [] okM_17.1 (ocell_7 okM_17.2.1) rfl q771 q19 (c_X7_error (vL E) (vG E) 1 _ _  hm) q769 q772 q72 md_X7_error (Nat.le_of_ble_eq_true rfl) (Nat.le_of_ble_eq_true rfl) rfl rfl (Nat.le_of_ble_eq_true rfl) dX7_then_28 (fun v8 S7 hm => ?_)
      exact hR _ _ _ _ dX7_then_31 hm
    · refine cf_iload_n C dX7_then_17 rfl 3 rfl ?_
      refine cf_iconst C dX7_then_18 (v := 0) rfl ?_
      refine cf_iconst C dX7_then_19 (v := 1) rfl ?_
      refine cf_callSi C [.int x3, .int 0, .int 1] [] q767 (c_X7_in (vL E) (vG E) x3 0 1 _ _  hm) q766 q768 q72 md_X7_in (Nat.le_of_ble_eq_true rfl) (Nat.le_of_ble_eq_true rfl) rfl rfl (Nat.le_of_ble_eq_true rfl) dX7_then_20 (fun v10 S9 hm => ?_)
      refine cf_if_ne C (tgt := 32) dX7_then_23 (by decide) hm (fun hm => ?_) (fun hm => ?_)
      · refine cf_aload_n C dX7_then_32 rfl 0 rfl ?_
        refine cf_callVv C [] [] okM_17.1 (ocell_7 okM_17.2.1) rfl q980 q51 (c_X7_layDown (vL E) (vG E)  _ _  hm) q978 q981 q72 md_X7_layDown (Nat.le_of_ble_eq_true rfl) (Nat.le_of_ble_eq_true rfl) rfl rfl (Nat.le_of_ble_eq_true rfl) dX7_then_33 (fun S11 hm => ?_)
        refine cf_aload_n C dX7_then_36 rfl 0 rfl ?_
        refine cf_iload_n C dX7_then_37 rfl 1 rfl ?_
        refine cf_iload_n C dX7_then_38 rfl 2 rfl ?_
        refine cf_callVv C [.int x1, .int x2] [] okM_17.1 (ocell_7 okM_17.2.1) rfl q951 q47 (c_X7_goes (vL E) (vG E) x1 x2 _ _  hm) q949 q952 q72 md_X7_goes (Nat.le_of_ble_eq_true rfl) (Nat.le_of_ble_eq_true rfl) rfl rfl (Nat.le_of_ble_eq_true rfl) dX7_then_39 (fun S12 hm => ?_)
        refine cf_iload_n C dX7_then_42 rfl 3 rfl ?_
        refine cf_if_ne C (tgt := 53) dX7_then_43 (by decide) hm (fun hm => ?_) (fun hm => ?_)
        · refine cf_aload_n C dX7_then_53 rfl 0 rfl ?_
          refine cf_callVi C [] [] okM_17.1 (ocell_7 okM_17.2.1) rfl q882 q40 (c_X7_findRuler (vL E) (vG E)  _ _  hm) q880 q883 q72 md_X7_findRuler (Nat.le_of_ble_eq_true rfl) (Nat.le_of_ble_eq_true rfl) rfl rfl (Nat.le_of_ble_eq_true rfl) dX7_then_54 (fun v14 S13 hm => ?_)
          refine cf_istore C (L1 := [(4, .int v14), (0, .ref (adr (vG E) 17 0)), (1, .int x1), (2, .int x2), (3, .int x3)]) dX7_then_57 (by decide) rfl ?_
          refine cf_aload_n C dX7_then_59 rfl 1 rfl ?_
          refine cf_callVv C [] [] okM_17.1 (ocell_7 okM_17.2.1) rfl q984 q52 (c_X7_layBack (vL E) (vG E)  _ _  hm) q982 q985 q72 md_X7_layBack (Nat.le_of_ble_eq_true rfl) (Nat.le_of_ble_eq_true rfl) rfl rfl (Nat.le_of_ble_eq_true rfl) dX7_then_60 (fun S15 hm => ?_)
          refine cf_iload C dX7_then_63 0 rfl ?_
          exact hR _ _ _ _ dX7_then_65 hm
        · refine cf_aload_n C dX7_then_46 rfl 0 rfl ?_
          refine cf_callVi C [] [] okM_17.1 (ocell_7 okM_17.2.1) rfl q955 q48 (c_X7_allLeft (vL E) (vG E)  _ _  hm) q953 q956 q72 md_X7_allLeft (Nat.le_of_ble_eq_true rfl) (Nat.le_of_ble_eq_true rfl) rfl rfl (Nat.le_of_ble_eq_true rfl) dX7_then_47 (fun v17 S16 hm => ?_)
          refine cf_goto C (tgt := 57) dX7_then_50 (by decide) ?_
          refine cf_istore C (L1 := [(4, .int v17), (0, .ref (adr (vG E) 17 0)), (1, .int x1), (2, .int x2), (3, .int x3)]) dX7_then_57 (by decide) rfl ?_
          refine cf_aload_n C dX7_then_59 rfl 1 rfl ?_
          refine cf_callVv C [] [] okM_17.1 (ocell_7 okM_17.2.1) rfl q984 q52 (c_X7_layBack (vL E) (vG E)  _ _  hm) q982 q985 q72 md_X7_layBack (Nat.le_of_ble_eq_true rfl) (Nat.le_of_ble_eq_true rfl) rfl rfl (Nat.le_of_ble_eq_true rfl) dX7_then_60 (fun S18 hm => ?_)
          refine cf_iload C dX7_then_63 0 rfl ?_
          exact hR _ _ _ _ dX7_then_65 hm
      · refine cf_aload_n C dX7_then_26 rfl 0 rfl ?_
        refine cf_iconst C dX7_then_27 (v := 1) rfl ?_
        refine cf_callVi C [.int 1] [] okM_17.1 (ocell_7 okM_17.2.1) rfl q771 q19 (c_X7_error (vL E) (vG E) 1 _ _  hm) q769 q772 q72 md_X7_error (Nat.le_of_ble_eq_true rfl) (Nat.le_of_ble_eq_true rfl) rfl rfl (Nat.le_of_ble_eq_true rfl) dX7_then_28 (fun v20 S19 hm => ?_)
        exact hR _ _ _ _ dX7_then_31 hm

def L_X7_gone_27    (Q : Int32 → St → Prop) : Nat → Int32 → Int32 → Int32 → St → Prop
  | 0 => fun _ _ _ _ => False
  | n + 1 => fun x1 x2 x3 S => if 60 < x3 then (E_X7_layBack S (fun S8 => if x3 ≤ 60 then (Q x3 S8) else (E_X7_error 2 S8 (fun v10 S9 => Q v10 S9)))) else (E_X7_its x1 2 S (fun v12 S11 => if v12 ≤ 0 then (E_X7_layBack S11 (fun S13 => if x3 ≤ 60 then (Q x3 S13) else (E_X7_error 2 S13 (fun v15 S14 => Q v15 S14)))) else (E_X7_aMeal x2 S11 (fun v17 S16 => nmI (x3 + 1) (fun v18 => L_X7_gone_27 Q n x1 x2 v18 S16)))))
set_option maxRecDepth 20000 in
theorem w_L_X7_gone_27 {E : EV} {Q : Int32 → St → Prop}   (C : CX E cX7_gone RX7 5 enM 6 138)   (hR : RTi E cX7_gone Q) : ∀ (n : Nat) (x1 : Int32) (x2 : Int32) (x3 : Int32) (S : St), L_X7_gone_27 Q n x1 x2 x3 S → CF E S 27 [(0, .ref (adr (vG E) 17 0)), (1, .int x1), (2, .int x2), (3, .int x3)] [] := by
  intro n
  induction n with
  | zero =>
    intro x1 x2 x3 S hm
    exact hm.elim
  | succ n ih =>
    intro x1 x2 x3 S hm
    unfold L_X7_gone_27 at hm
    refine cf_iload_n C dX7_gone_27 rfl 3 rfl ?_
    refine cf_bipush C dX7_gone_28 (v := 60) rfl ?_
    refine cf_icmp_gt C (tgt := 55) dX7_gone_30 (by decide) hm (fun hm => ?_) (fun hm => ?_)
    · refine cf_aload_n C dX7_gone_55 rfl 0 rfl ?_
      refine cf_callVv C [] [] okM_17.1 (ocell_7 okM_17.2.1) rfl q984 q52 (c_X7_layBack (vL E) (vG E)  _ _  hm) q982 q985 q72 md_X7_layBack (Nat.le_of_ble_eq_true rfl) (Nat.le_of_ble_eq_true rfl) rfl rfl (Nat.le_of_ble_eq_true rfl) dX7_gone_56 (fun S8 hm => ?_)
      refine cf_iload_n C dX7_gone_59 rfl 3 rfl ?_
      refine cf_bipush C dX7_gone_60 (v := 60) rfl ?_
      refine cf_icmp_le C (tgt := 73) dX7_gone_62 (by decide) hm (fun hm => ?_) (fun hm => ?_)
      · refine cf_iload_n C dX7_gone_73 rfl 3 rfl ?_
        exact hR _ _ _ _ dX7_gone_74 hm
      · refine cf_aload_n C dX7_gone_65 rfl 0 rfl ?_
        refine cf_iconst C dX7_gone_66 (v := 2) rfl ?_
        refine cf_callVi C [.int 2] [] okM_17.1 (ocell_7 okM_17.2.1) rfl q771 q19 (c_X7_error (vL E) (vG E) 2 _ _  hm) q769 q772 q72 md_X7_error (Nat.le_of_ble_eq_true rfl) (Nat.le_of_ble_eq_true rfl) rfl rfl (Nat.le_of_ble_eq_true rfl) dX7_gone_67 (fun v10 S9 hm => ?_)
        refine cf_goto C (tgt := 74) dX7_gone_70 (by decide) ?_
        exact hR _ _ _ _ dX7_gone_74 hm
    · refine cf_aload_n C dX7_gone_33 rfl 0 rfl ?_
      refine cf_iload_n C dX7_gone_34 rfl 1 rfl ?_
      refine cf_iconst C dX7_gone_35 (v := 2) rfl ?_
      refine cf_callVi C [.int x1, .int 2] [] okM_17.1 (ocell_7 okM_17.2.1) rfl q860 q36 (c_X7_its (vL E) (vG E) x1 2 _ _  hm) q858 q861 q72 md_X7_its (Nat.le_of_ble_eq_true rfl) (Nat.le_of_ble_eq_true rfl) rfl rfl (Nat.le_of_ble_eq_true rfl) dX7_gone_36 (fun v12 S11 hm => ?_)
      refine cf_if_le C (tgt := 55) dX7_gone_39 (by decide) hm (fun hm => ?_) (fun hm => ?_)
      · refine cf_aload_n C dX7_gone_55 rfl 0 rfl ?_
        refine cf_callVv C [] [] okM_17.1 (ocell_7 okM_17.2.1) rfl q984 q52 (c_X7_layBack (vL E) (vG E)  _ _  hm) q982 q985 q72 md_X7_layBack (Nat.le_of_ble_eq_true rfl) (Nat.le_of_ble_eq_true rfl) rfl rfl (Nat.le_of_ble_eq_true rfl) dX7_gone_56 (fun S13 hm => ?_)
        refine cf_iload_n C dX7_gone_59 rfl 3 rfl ?_
        refine cf_bipush C dX7_gone_60 (v := 60) rfl ?_
        refine cf_icmp_le C (tgt := 73) dX7_gone_62 (by decide) hm (fun hm => ?_) (fun hm => ?_)
        · refine cf_iload_n C dX7_gone_73 rfl 3 rfl ?_
          exact hR _ _ _ _ dX7_gone_74 hm
        · refine cf_aload_n C dX7_gone_65 rfl 0 rfl ?_
          refine cf_iconst C dX7_gone_66 (v := 2) rfl ?_
          refine cf_callVi C [.int 2] [] okM_17.1 (ocell_7 okM_17.2.1) rfl q771 q19 (c_X7_error (vL E) (vG E) 2 _ _  hm) q769 q772 q72 md_X7_error (Nat.le_of_ble_eq_true rfl) (Nat.le_of_ble_eq_true rfl) rfl rfl (Nat.le_of_ble_eq_true rfl) dX7_gone_67 (fun v15 S14 hm => ?_)
          refine cf_goto C (tgt := 74) dX7_gone_70 (by decide) ?_
          exact hR _ _ _ _ dX7_gone_74 hm
      · refine cf_aload_n C dX7_gone_42 rfl 0 rfl ?_
        refine cf_iload_n C dX7_gone_43 rfl 2 rfl ?_
        refine cf_callVi C [.int x2] [] okM_17.1 (ocell_7 okM_17.2.1) rfl q934 q44 (c_X7_aMeal (vL E) (vG E) x2 _ _  hm) q932 q935 q72 md_X7_aMeal (Nat.le_of_ble_eq_true rfl) (Nat.le_of_ble_eq_true rfl) rfl rfl (Nat.le_of_ble_eq_true rfl) dX7_gone_44 (fun v17 S16 hm => ?_)
        refine cf_istore C (L1 := [(4, .int v17), (0, .ref (adr (vG E) 17 0)), (1, .int x1), (2, .int x2), (3, .int x3)]) dX7_gone_47 (by decide) rfl ?_
        refine cf_iincN C (L1 := fun v18 => [(3, .int v18), (4, .int v17), (0, .ref (adr (vG E) 17 0)), (1, .int x1), (2, .int x2)]) dX7_gone_49 4 rfl rfl (by decide) (fun _ => rfl) hm (fun v18 hm => ?_)
        refine cf_goto C (tgt := 27) dX7_gone_52 (by decide) ?_
        refine cf_sub C [2, 3, 4, 0] rfl ?_
        exact ih x1 x2 v18 _ hm
def E_X7_gone (x1 : Int32) (x2 : Int32) (S : St) (Q : Int32 → St → Prop) : Prop := E_X7_isDish x1 S (fun v2 S1 => if v2 = 0 then (E_X7_error 1 S1 (fun v4 S3 => Q v4 S3)) else (E_X7_isHunger x2 S1 (fun v6 S5 => if v6 = 0 then (E_X7_error 1 S5 (fun v20 S19 => Q v20 S19)) else (E_X7_layDown S5 (fun S7 => ∃ k, L_X7_gone_27 Q k x1 x2 0 S7)))))
set_option maxRecDepth 20000 in
theorem c_X7_gone (l : Launch) (G : GX) (x1 : Int32) (x2 : Int32) (S : St) (Q : Int32 → St → Prop)  (hm : E_X7_gone x1 x2 S Q) : CTi l yX7_gone (Cond.code yX7_gone cX7_gone 5 (some .int) :: AW) { frames := 6, cells := 0, slots := 0, locals := 138 } G enM [.ref (adr G 17 0), .int x1, .int x2] S Q := by
  refine ct_start_i (by decide) enM_nd (Nat.le_of_ble_eq_true rfl) (fun E hG hl C hR => ?_)
  subst hG
  subst hl
  show CF E S 0 [(0, .ref (adr (vG E) 17 0)), (1, .int x1), (2, .int x2)] []
  unfold E_X7_gone at hm
  refine cf_aload_n C dX7_gone_0 rfl 0 rfl ?_
  refine cf_iload_n C dX7_gone_1 rfl 1 rfl ?_
  refine cf_callVi C [.int x1] [] okM_17.1 (ocell_7 okM_17.2.1) rfl q848 q33 (c_X7_isDish (vL E) (vG E) x1 _ _  hm) q846 q849 q72 md_X7_isDish (Nat.le_of_ble_eq_true rfl) (Nat.le_of_ble_eq_true rfl) rfl rfl (Nat.le_of_ble_eq_true rfl) dX7_gone_2 (fun v2 S1 hm => ?_)
  refine cf_if_eq C (tgt := 15) dX7_gone_5 (by decide) hm (fun hm => ?_) (fun hm => ?_)
  · refine cf_aload_n C dX7_gone_15 rfl 0 rfl ?_
    refine cf_iconst C dX7_gone_16 (v := 1) rfl ?_
    refine cf_callVi C [.int 1] [] okM_17.1 (ocell_7 okM_17.2.1) rfl q771 q19 (c_X7_error (vL E) (vG E) 1 _ _  hm) q769 q772 q72 md_X7_error (Nat.le_of_ble_eq_true rfl) (Nat.le_of_ble_eq_true rfl) rfl rfl (Nat.le_of_ble_eq_true rfl) dX7_gone_17 (fun v4 S3 hm => ?_)
    exact hR _ _ _ _ dX7_gone_20 hm
  · refine cf_iload_n C dX7_gone_8 rfl 2 rfl ?_
    refine cf_callSi C [.int x2] [] q930 (c_X7_isHunger (vL E) (vG E) x2 _ _  hm) q929 q931 q72 md_X7_isHunger (Nat.le_of_ble_eq_true rfl) (Nat.le_of_ble_eq_true rfl) rfl rfl (Nat.le_of_ble_eq_true rfl) dX7_gone_9 (fun v6 S5 hm => ?_)
    refine cf_if_ne C (tgt := 21) dX7_gone_12 (by decide) hm (fun hm => ?_) (fun hm => ?_)
    · refine cf_aload_n C dX7_gone_21 rfl 0 rfl ?_
      refine cf_callVv C [] [] okM_17.1 (ocell_7 okM_17.2.1) rfl q980 q51 (c_X7_layDown (vL E) (vG E)  _ _  hm) q978 q981 q72 md_X7_layDown (Nat.le_of_ble_eq_true rfl) (Nat.le_of_ble_eq_true rfl) rfl rfl (Nat.le_of_ble_eq_true rfl) dX7_gone_22 (fun S7 hm => ?_)
      refine cf_iconst C dX7_gone_25 (v := 0) rfl ?_
      refine cf_istore_n C (L1 := [(3, .int 0), (0, .ref (adr (vG E) 17 0)), (1, .int x1), (2, .int x2)]) dX7_gone_26 rfl (by decide) rfl ?_
      refine cf_sub C [1, 2, 3, 0] rfl ?_
      obtain ⟨k, hm⟩ := hm
      exact w_L_X7_gone_27 C hR k x1 x2 0 _ hm
    · refine cf_aload_n C dX7_gone_15 rfl 0 rfl ?_
      refine cf_iconst C dX7_gone_16 (v := 1) rfl ?_
      refine cf_callVi C [.int 1] [] okM_17.1 (ocell_7 okM_17.2.1) rfl q771 q19 (c_X7_error (vL E) (vG E) 1 _ _  hm) q769 q772 q72 md_X7_error (Nat.le_of_ble_eq_true rfl) (Nat.le_of_ble_eq_true rfl) rfl rfl (Nat.le_of_ble_eq_true rfl) dX7_gone_17 (fun v20 S19 hm => ?_)
      exact hR _ _ _ _ dX7_gone_20 hm

def L_X7_needs_20    (Q : Int32 → St → Prop) : Nat → Int32 → Int32 → Int32 → St → Prop
  | 0 => fun _ _ _ _ => False
  | n + 1 => fun x1 x2 x3 S => if x3 = 0 then (if 100 ≤ x2 then (if x3 = 0 then (E_X7_error 2 S (fun v6 S5 => Q v6 S5)) else (Q (x2 - 1) S)) else (E_X7_layDown S (fun S7 => E_X7_goes x1 x2 S7 (fun S8 => E_X7_allLeft S8 (fun v10 S9 => if v10 = 0 then (E_X7_layBack S9 (fun S13 => nmI (x2 + 1) (fun v14 => L_X7_needs_20 Q n x1 v14 1 S13))) else (E_X7_layBack S9 (fun S11 => nmI (x2 + 1) (fun v12 => L_X7_needs_20 Q n x1 v12 0 S11)))))))) else (if x3 = 0 then (E_X7_error 2 S (fun v4 S3 => Q v4 S3)) else (Q (x2 - 1) S))
set_option maxRecDepth 20000 in
theorem w_L_X7_needs_20 {E : EV} {Q : Int32 → St → Prop}   (C : CX E cX7_needs RX7 4 enM 7 162)   (hR : RTi E cX7_needs Q) : ∀ (n : Nat) (x1 : Int32) (x2 : Int32) (x3 : Int32) (S : St), L_X7_needs_20 Q n x1 x2 x3 S → CF E S 20 [(0, .ref (adr (vG E) 17 0)), (1, .int x1), (2, .int x2), (3, .int x3)] [] := by
  intro n
  induction n with
  | zero =>
    intro x1 x2 x3 S hm
    exact hm.elim
  | succ n ih =>
    intro x1 x2 x3 S hm
    unfold L_X7_needs_20 at hm
    refine cf_iload_n C dX7_needs_20 rfl 3 rfl ?_
    refine cf_if_ne C (tgt := 63) dX7_needs_21 (by decide) hm (fun hm => ?_) (fun hm => ?_)
    · refine cf_iload_n C dX7_needs_63 rfl 3 rfl ?_
      refine cf_if_eq C (tgt := 73) dX7_needs_64 (by decide) hm (fun hm => ?_) (fun hm => ?_)
      · refine cf_aload_n C dX7_needs_73 rfl 0 rfl ?_
        refine cf_iconst C dX7_needs_74 (v := 2) rfl ?_
        refine cf_callVi C [.int 2] [] okM_17.1 (ocell_7 okM_17.2.1) rfl q771 q19 (c_X7_error (vL E) (vG E) 2 _ _  hm) q769 q772 q72 md_X7_error (Nat.le_of_ble_eq_true rfl) (Nat.le_of_ble_eq_true rfl) rfl rfl (Nat.le_of_ble_eq_true rfl) dX7_needs_75 (fun v4 S3 hm => ?_)
        exact hR _ _ _ _ dX7_needs_78 hm
      · refine cf_iload_n C dX7_needs_67 rfl 2 rfl ?_
        refine cf_iconst C dX7_needs_68 (v := 1) rfl ?_
        refine cf_isub C dX7_needs_69 ?_
        refine cf_goto C (tgt := 78) dX7_needs_70 (by decide) ?_
        exact hR _ _ _ _ dX7_needs_78 hm
    · refine cf_iload_n C dX7_needs_24 rfl 2 rfl ?_
      refine cf_bipush C dX7_needs_25 (v := 100) rfl ?_
      refine cf_icmp_ge C (tgt := 63) dX7_needs_27 (by decide) hm (fun hm => ?_) (fun hm => ?_)
      · refine cf_iload_n C dX7_needs_63 rfl 3 rfl ?_
        refine cf_if_eq C (tgt := 73) dX7_needs_64 (by decide) hm (fun hm => ?_) (fun hm => ?_)
        · refine cf_aload_n C dX7_needs_73 rfl 0 rfl ?_
          refine cf_iconst C dX7_needs_74 (v := 2) rfl ?_
          refine cf_callVi C [.int 2] [] okM_17.1 (ocell_7 okM_17.2.1) rfl q771 q19 (c_X7_error (vL E) (vG E) 2 _ _  hm) q769 q772 q72 md_X7_error (Nat.le_of_ble_eq_true rfl) (Nat.le_of_ble_eq_true rfl) rfl rfl (Nat.le_of_ble_eq_true rfl) dX7_needs_75 (fun v6 S5 hm => ?_)
          exact hR _ _ _ _ dX7_needs_78 hm
        · refine cf_iload_n C dX7_needs_67 rfl 2 rfl ?_
          refine cf_iconst C dX7_needs_68 (v := 1) rfl ?_
          refine cf_isub C dX7_needs_69 ?_
          refine cf_goto C (tgt := 78) dX7_needs_70 (by decide) ?_
          exact hR _ _ _ _ dX7_needs_78 hm
      · refine cf_aload_n C dX7_needs_30 rfl 0 rfl ?_
        refine cf_callVv C [] [] okM_17.1 (ocell_7 okM_17.2.1) rfl q980 q51 (c_X7_layDown (vL E) (vG E)  _ _  hm) q978 q981 q72 md_X7_layDown (Nat.le_of_ble_eq_true rfl) (Nat.le_of_ble_eq_true rfl) rfl rfl (Nat.le_of_ble_eq_true rfl) dX7_needs_31 (fun S7 hm => ?_)
        refine cf_aload_n C dX7_needs_34 rfl 0 rfl ?_
        refine cf_iload_n C dX7_needs_35 rfl 1 rfl ?_
        refine cf_iload_n C dX7_needs_36 rfl 2 rfl ?_
        refine cf_callVv C [.int x1, .int x2] [] okM_17.1 (ocell_7 okM_17.2.1) rfl q951 q47 (c_X7_goes (vL E) (vG E) x1 x2 _ _  hm) q949 q952 q72 md_X7_goes (Nat.le_of_ble_eq_true rfl) (Nat.le_of_ble_eq_true rfl) rfl rfl (Nat.le_of_ble_eq_true rfl) dX7_needs_37 (fun S8 hm => ?_)
        refine cf_aload_n C dX7_needs_40 rfl 0 rfl ?_
        refine cf_callVi C [] [] okM_17.1 (ocell_7 okM_17.2.1) rfl q955 q48 (c_X7_allLeft (vL E) (vG E)  _ _  hm) q953 q956 q72 md_X7_allLeft (Nat.le_of_ble_eq_true rfl) (Nat.le_of_ble_eq_true rfl) rfl rfl (Nat.le_of_ble_eq_true rfl) dX7_needs_41 (fun v10 S9 hm => ?_)
        refine cf_if_ne C (tgt := 51) dX7_needs_44 (by decide) hm (fun hm => ?_) (fun hm => ?_)
        · refine cf_iconst C dX7_needs_51 (v := 0) rfl ?_
          refine cf_istore_n C (L1 := [(3, .int 0), (0, .ref (adr (vG E) 17 0)), (1, .int x1), (2, .int x2)]) dX7_needs_52 rfl (by decide) rfl ?_
          refine cf_aload_n C dX7_needs_53 rfl 1 rfl ?_
          refine cf_callVv C [] [] okM_17.1 (ocell_7 okM_17.2.1) rfl q984 q52 (c_X7_layBack (vL E) (vG E)  _ _  hm) q982 q985 q72 md_X7_layBack (Nat.le_of_ble_eq_true rfl) (Nat.le_of_ble_eq_true rfl) rfl rfl (Nat.le_of_ble_eq_true rfl) dX7_needs_54 (fun S11 hm => ?_)
          refine cf_iincN C (L1 := fun v12 => [(2, .int v12), (3, .int 0), (0, .ref (adr (vG E) 17 0)), (1, .int x1)]) dX7_needs_57 3 rfl rfl (by decide) (fun _ => rfl) hm (fun v12 hm => ?_)
          refine cf_goto C (tgt := 20) dX7_needs_60 (by decide) ?_
          refine cf_sub C [2, 3, 0, 1] rfl ?_
          exact ih x1 v12 0 _ hm
        · refine cf_iconst C dX7_needs_47 (v := 1) rfl ?_
          refine cf_goto C (tgt := 52) dX7_needs_48 (by decide) ?_
          refine cf_istore_n C (L1 := [(3, .int 1), (0, .ref (adr (vG E) 17 0)), (1, .int x1), (2, .int x2)]) dX7_needs_52 rfl (by decide) rfl ?_
          refine cf_aload_n C dX7_needs_53 rfl 1 rfl ?_
          refine cf_callVv C [] [] okM_17.1 (ocell_7 okM_17.2.1) rfl q984 q52 (c_X7_layBack (vL E) (vG E)  _ _  hm) q982 q985 q72 md_X7_layBack (Nat.le_of_ble_eq_true rfl) (Nat.le_of_ble_eq_true rfl) rfl rfl (Nat.le_of_ble_eq_true rfl) dX7_needs_54 (fun S13 hm => ?_)
          refine cf_iincN C (L1 := fun v14 => [(2, .int v14), (3, .int 1), (0, .ref (adr (vG E) 17 0)), (1, .int x1)]) dX7_needs_57 3 rfl rfl (by decide) (fun _ => rfl) hm (fun v14 hm => ?_)
          refine cf_goto C (tgt := 20) dX7_needs_60 (by decide) ?_
          refine cf_sub C [2, 3, 0, 1] rfl ?_
          exact ih x1 v14 1 _ hm
def E_X7_needs (x1 : Int32) (S : St) (Q : Int32 → St → Prop) : Prop := E_X7_in x1 0 20 S (fun v2 S1 => if v2 = 0 then (E_X7_error 1 S1 (fun v16 S15 => Q v16 S15)) else (∃ k, L_X7_needs_20 Q k x1 0 0 S1))
set_option maxRecDepth 20000 in
theorem c_X7_needs (l : Launch) (G : GX) (x1 : Int32) (S : St) (Q : Int32 → St → Prop)  (hm : E_X7_needs x1 S Q) : CTi l yX7_needs (Cond.code yX7_needs cX7_needs 4 (some .int) :: AW) { frames := 7, cells := 0, slots := 0, locals := 162 } G enM [.ref (adr G 17 0), .int x1] S Q := by
  refine ct_start_i (by decide) enM_nd (Nat.le_of_ble_eq_true rfl) (fun E hG hl C hR => ?_)
  subst hG
  subst hl
  show CF E S 0 [(0, .ref (adr (vG E) 17 0)), (1, .int x1)] []
  unfold E_X7_needs at hm
  refine cf_iload_n C dX7_needs_0 rfl 1 rfl ?_
  refine cf_iconst C dX7_needs_1 (v := 0) rfl ?_
  refine cf_bipush C dX7_needs_2 (v := 20) rfl ?_
  refine cf_callSi C [.int x1, .int 0, .int 20] [] q767 (c_X7_in (vL E) (vG E) x1 0 20 _ _  hm) q766 q768 q72 md_X7_in (Nat.le_of_ble_eq_true rfl) (Nat.le_of_ble_eq_true rfl) rfl rfl (Nat.le_of_ble_eq_true rfl) dX7_needs_4 (fun v2 S1 hm => ?_)
  refine cf_if_ne C (tgt := 16) dX7_needs_7 (by decide) hm (fun hm => ?_) (fun hm => ?_)
  · refine cf_iconst C dX7_needs_16 (v := 0) rfl ?_
    refine cf_istore_n C (L1 := [(2, .int 0), (0, .ref (adr (vG E) 17 0)), (1, .int x1)]) dX7_needs_17 rfl (by decide) rfl ?_
    refine cf_iconst C dX7_needs_18 (v := 0) rfl ?_
    refine cf_istore_n C (L1 := [(3, .int 0), (2, .int 0), (0, .ref (adr (vG E) 17 0)), (1, .int x1)]) dX7_needs_19 rfl (by decide) rfl ?_
    refine cf_sub C [2, 3, 1, 0] rfl ?_
    obtain ⟨k, hm⟩ := hm
    exact w_L_X7_needs_20 C hR k x1 0 0 _ hm
  · refine cf_aload_n C dX7_needs_10 rfl 0 rfl ?_
    refine cf_iconst C dX7_needs_11 (v := 1) rfl ?_
    refine cf_callVi C [.int 1] [] okM_17.1 (ocell_7 okM_17.2.1) rfl q771 q19 (c_X7_error (vL E) (vG E) 1 _ _  hm) q769 q772 q72 md_X7_error (Nat.le_of_ble_eq_true rfl) (Nat.le_of_ble_eq_true rfl) rfl rfl (Nat.le_of_ble_eq_true rfl) dX7_needs_12 (fun v16 S15 hm => ?_)
    exact hR _ _ _ _ dX7_needs_15 hm

def L_X7_manyIn_4    (Q : Int32 → St → Prop) : Nat → Int32 → Int32 → Int32 → St → Prop
  | 0 => fun _ _ _ _ => False
  | n + 1 => fun x0 x1 x2 S => if 9 ≤ x2 then (Q x1 S) else (nmI (x1 + ((x0 >>> (x2 &&& 31)) &&& 1)) (fun v1 => nmI (x2 + 1) (fun v2 => L_X7_manyIn_4 Q n x0 v1 v2 S)))
set_option maxRecDepth 20000 in
theorem w_L_X7_manyIn_4 {E : EV} {Q : Int32 → St → Prop}   (C : CX E cX7_manyIn RX7 3 enM 0 0)   (hR : RTi E cX7_manyIn Q) : ∀ (n : Nat) (x0 : Int32) (x1 : Int32) (x2 : Int32) (S : St), L_X7_manyIn_4 Q n x0 x1 x2 S → CF E S 4 [(0, .int x0), (1, .int x1), (2, .int x2)] [] := by
  intro n
  induction n with
  | zero =>
    intro x0 x1 x2 S hm
    exact hm.elim
  | succ n ih =>
    intro x0 x1 x2 S hm
    unfold L_X7_manyIn_4 at hm
    refine cf_iload_n C dX7_manyIn_4 rfl 2 rfl ?_
    refine cf_bipush C dX7_manyIn_5 (v := 9) rfl ?_
    refine cf_icmp_ge C (tgt := 24) dX7_manyIn_7 (by decide) hm (fun hm => ?_) (fun hm => ?_)
    · refine cf_iload_n C dX7_manyIn_24 rfl 1 rfl ?_
      exact hR _ _ _ _ dX7_manyIn_25 hm
    · refine cf_iload_n C dX7_manyIn_10 rfl 1 rfl ?_
      refine cf_iload_n C dX7_manyIn_11 rfl 0 rfl ?_
      refine cf_iload_n C dX7_manyIn_12 rfl 2 rfl ?_
      refine cf_ishr C dX7_manyIn_13 ?_
      refine cf_iconst C dX7_manyIn_14 (v := 1) rfl ?_
      refine cf_iand C dX7_manyIn_15 ?_
      refine cf_iadd C dX7_manyIn_16 ?_
      refine cf_nmI hm (fun v1 hm => ?_)
      refine cf_istore_n C (L1 := [(1, .int v1), (0, .int x0), (2, .int x2)]) dX7_manyIn_17 rfl (by decide) rfl ?_
      refine cf_iincN C (L1 := fun v2 => [(2, .int v2), (1, .int v1), (0, .int x0)]) dX7_manyIn_18 2 rfl rfl (by decide) (fun _ => rfl) hm (fun v2 hm => ?_)
      refine cf_goto C (tgt := 4) dX7_manyIn_21 (by decide) ?_
      refine cf_sub C [2, 1, 0] rfl ?_
      exact ih x0 v1 v2 _ hm
def E_X7_manyIn (x0 : Int32) (S : St) (Q : Int32 → St → Prop) : Prop := ∃ k, L_X7_manyIn_4 Q k x0 0 0 S
set_option maxRecDepth 20000 in
theorem c_X7_manyIn (l : Launch) (G : GX) (x0 : Int32) (S : St) (Q : Int32 → St → Prop)  (hm : E_X7_manyIn x0 S Q) : CTi l yX7_manyIn (Cond.code yX7_manyIn cX7_manyIn 3 (some .int) :: AW) { frames := 0, cells := 0, slots := 0, locals := 0 } G enM [.int x0] S Q := by
  refine ct_start_i (by decide) enM_nd (Nat.le_of_ble_eq_true rfl) (fun E hG hl C hR => ?_)
  subst hG
  subst hl
  show CF E S 0 [(0, .int x0)] []
  unfold E_X7_manyIn at hm
  refine cf_iconst C dX7_manyIn_0 (v := 0) rfl ?_
  refine cf_istore_n C (L1 := [(1, .int 0), (0, .int x0)]) dX7_manyIn_1 rfl (by decide) rfl ?_
  refine cf_iconst C dX7_manyIn_2 (v := 0) rfl ?_
  refine cf_istore_n C (L1 := [(2, .int 0), (1, .int 0), (0, .int x0)]) dX7_manyIn_3 rfl (by decide) rfl ?_
  refine cf_sub C [2, 1, 0] rfl ?_
  obtain ⟨k, hm⟩ := hm
  exact w_L_X7_manyIn_4 C hR k x0 0 0 _ hm

def L_X7_doesRule_7    (Q : Int32 → St → Prop) : Nat → Int32 → Int32 → Int32 → Int32 → Int32 → St → Prop
  | 0 => fun _ _ _ _ _ _ => False
  | n + 1 => fun x1 x2 x3 x4 x5 S => vp_in 5 387 ∧ (if (S.2 17 0 (5 : Int32).toNatClampNeg) ≤ x5 then (E_X7_goes x2 x3 S (fun S2 => E_X7_findRuler S2 (fun v4 S3 => if v4 = x1 then (E_X7_layBack S3 (fun S6 => Q 1 S6)) else (E_X7_layBack S3 (fun S5 => Q 0 S5))))) else (if ((x4 >>> (x5 &&& 31)) &&& 1) = 1 then (E_X7_lays1 x5 2 0 S (fun S11 => nmI (x5 + 1) (fun v12 => L_X7_doesRule_7 Q n x1 x2 x3 x4 v12 S11))) else (E_X7_its x5 2 S (fun v8 S7 => E_X7_lays1 x5 2 v8 S7 (fun S9 => nmI (x5 + 1) (fun v10 => L_X7_doesRule_7 Q n x1 x2 x3 x4 v10 S9))))))
set_option maxRecDepth 20000 in
theorem w_L_X7_doesRule_7 {E : EV} {Q : Int32 → St → Prop}   (C : CX E cX7_doesRule RX7 6 enM 7 162)   (hR : RTz E cX7_doesRule Q) : ∀ (n : Nat) (x1 : Int32) (x2 : Int32) (x3 : Int32) (x4 : Int32) (x5 : Int32) (S : St), L_X7_doesRule_7 Q n x1 x2 x3 x4 x5 S → CF E S 7 [(0, .ref (adr (vG E) 17 0)), (1, .int x1), (2, .int x2), (3, .int x3), (4, .int x4), (5, .int x5)] [] := by
  intro n
  induction n with
  | zero =>
    intro x1 x2 x3 x4 x5 S hm
    exact hm.elim
  | succ n ih =>
    intro x1 x2 x3 x4 x5 S hm
    unfold L_X7_doesRule_7 at hm
    refine cf_iload C dX7_doesRule_7 5 rfl ?_
    refine cf_aload_n C dX7_doesRule_9 rfl 0 rfl ?_
    refine gf_7_0 C inX7 okM_17 q694 dX7_doesRule_10 ?_
    refine cf_iconst C dX7_doesRule_13 (v := 5) rfl ?_
    refine cf_iald C (okA_of 0 okM_17 rfl (by decide) (by decide) (by decide)) dX7_doesRule_14 hm (fun hm => ?_)
    refine cf_icmp_ge C (tgt := 53) dX7_doesRule_15 (by decide) hm (fun hm => ?_) (fun hm => ?_)
    · refine cf_aload_n C dX7_doesRule_53 rfl 0 rfl ?_
      refine cf_iload_n C dX7_doesRule_54 rfl 2 rfl ?_
      refine cf_iload_n C dX7_doesRule_55 rfl 3 rfl ?_
      refine cf_callVv C [.int x2, .int x3] [] okM_17.1 (ocell_7 okM_17.2.1) rfl q951 q47 (c_X7_goes (vL E) (vG E) x2 x3 _ _  hm) q949 q952 q72 md_X7_goes (Nat.le_of_ble_eq_true rfl) (Nat.le_of_ble_eq_true rfl) rfl rfl (Nat.le_of_ble_eq_true rfl) dX7_doesRule_56 (fun S2 hm => ?_)
      refine cf_aload_n C dX7_doesRule_59 rfl 0 rfl ?_
      refine cf_callVi C [] [] okM_17.1 (ocell_7 okM_17.2.1) rfl q882 q40 (c_X7_findRuler (vL E) (vG E)  _ _  hm) q880 q883 q72 md_X7_findRuler (Nat.le_of_ble_eq_true rfl) (Nat.le_of_ble_eq_true rfl) rfl rfl (Nat.le_of_ble_eq_true rfl) dX7_doesRule_60 (fun v4 S3 hm => ?_)
      refine cf_iload_n C dX7_doesRule_63 rfl 1 rfl ?_
      refine cf_icmp_ne C (tgt := 71) dX7_doesRule_64 (by decide) hm (fun hm => ?_) (fun hm => ?_)
      · refine cf_iconst C dX7_doesRule_71 (v := 0) rfl ?_
        refine cf_istore C (L1 := [(5, .int 0), (0, .ref (adr (vG E) 17 0)), (1, .int x1), (2, .int x2), (3, .int x3), (4, .int x4)]) dX7_doesRule_72 (by decide) rfl ?_
        refine cf_aload_n C dX7_doesRule_74 rfl 1 rfl ?_
        refine cf_callVv C [] [] okM_17.1 (ocell_7 okM_17.2.1) rfl q984 q52 (c_X7_layBack (vL E) (vG E)  _ _  hm) q982 q985 q72 md_X7_layBack (Nat.le_of_ble_eq_true rfl) (Nat.le_of_ble_eq_true rfl) rfl rfl (Nat.le_of_ble_eq_true rfl) dX7_doesRule_75 (fun S5 hm => ?_)
        refine cf_iload C dX7_doesRule_78 0 rfl ?_
        exact hR _ _ _ _ dX7_doesRule_80 (Or.inl rfl) hm
      · refine cf_iconst C dX7_doesRule_67 (v := 1) rfl ?_
        refine cf_goto C (tgt := 72) dX7_doesRule_68 (by decide) ?_
        refine cf_istore C (L1 := [(5, .int 1), (0, .ref (adr (vG E) 17 0)), (1, .int x1), (2, .int x2), (3, .int x3), (4, .int x4)]) dX7_doesRule_72 (by decide) rfl ?_
        refine cf_aload_n C dX7_doesRule_74 rfl 1 rfl ?_
        refine cf_callVv C [] [] okM_17.1 (ocell_7 okM_17.2.1) rfl q984 q52 (c_X7_layBack (vL E) (vG E)  _ _  hm) q982 q985 q72 md_X7_layBack (Nat.le_of_ble_eq_true rfl) (Nat.le_of_ble_eq_true rfl) rfl rfl (Nat.le_of_ble_eq_true rfl) dX7_doesRule_75 (fun S6 hm => ?_)
        refine cf_iload C dX7_doesRule_78 0 rfl ?_
        exact hR _ _ _ _ dX7_doesRule_80 (Or.inr rfl) hm
    · refine cf_aload_n C dX7_doesRule_18 rfl 0 rfl ?_
      refine cf_iload C dX7_doesRule_19 5 rfl ?_
      refine cf_iconst C dX7_doesRule_21 (v := 2) rfl ?_
      refine cf_iload C dX7_doesRule_22 4 rfl ?_
      refine cf_iload C dX7_doesRule_24 5 rfl ?_
      refine cf_ishr C dX7_doesRule_26 ?_
      refine cf_iconst C dX7_doesRule_27 (v := 1) rfl ?_
      refine cf_iand C dX7_doesRule_28 ?_
      refine cf_iconst C dX7_doesRule_29 (v := 1) rfl ?_
      refine cf_icmp_ne C (tgt := 37) dX7_doesRule_30 (by decide) hm (fun hm => ?_) (fun hm => ?_)
      · refine cf_aload_n C dX7_doesRule_37 rfl 0 rfl ?_
        refine cf_iload C dX7_doesRule_38 5 rfl ?_
        refine cf_iconst C dX7_doesRule_40 (v := 2) rfl ?_
        refine cf_callVi C [.int x5, .int 2] [.int 2, .int x5, .ref (adr (vG E) 17 0)] okM_17.1 (ocell_7 okM_17.2.1) rfl q860 q36 (c_X7_its (vL E) (vG E) x5 2 _ _  hm) q858 q861 q72 md_X7_its (Nat.le_of_ble_eq_true rfl) (Nat.le_of_ble_eq_true rfl) rfl rfl (Nat.le_of_ble_eq_true rfl) dX7_doesRule_41 (fun v8 S7 hm => ?_)
        refine cf_callVv C [.int x5, .int 2, .int v8] [] okM_17.1 (ocell_7 okM_17.2.1) rfl q840 q32 (c_X7_lays1 (vL E) (vG E) x5 2 v8 _ _  hm) q838 q841 q72 md_X7_lays1 (Nat.le_of_ble_eq_true rfl) (Nat.le_of_ble_eq_true rfl) rfl rfl (Nat.le_of_ble_eq_true rfl) dX7_doesRule_44 (fun S9 hm => ?_)
        refine cf_iincN C (L1 := fun v10 => [(5, .int v10), (0, .ref (adr (vG E) 17 0)), (1, .int x1), (2, .int x2), (3, .int x3), (4, .int x4)]) dX7_doesRule_47 5 rfl rfl (by decide) (fun _ => rfl) hm (fun v10 hm => ?_)
        refine cf_goto C (tgt := 7) dX7_doesRule_50 (by decide) ?_
        refine cf_sub C [1, 2, 3, 4, 5, 0] rfl ?_
        exact ih x1 x2 x3 x4 v10 _ hm
      · refine cf_iconst C dX7_doesRule_33 (v := 0) rfl ?_
        refine cf_goto C (tgt := 44) dX7_doesRule_34 (by decide) ?_
        refine cf_callVv C [.int x5, .int 2, .int 0] [] okM_17.1 (ocell_7 okM_17.2.1) rfl q840 q32 (c_X7_lays1 (vL E) (vG E) x5 2 0 _ _  hm) q838 q841 q72 md_X7_lays1 (Nat.le_of_ble_eq_true rfl) (Nat.le_of_ble_eq_true rfl) rfl rfl (Nat.le_of_ble_eq_true rfl) dX7_doesRule_44 (fun S11 hm => ?_)
        refine cf_iincN C (L1 := fun v12 => [(5, .int v12), (0, .ref (adr (vG E) 17 0)), (1, .int x1), (2, .int x2), (3, .int x3), (4, .int x4)]) dX7_doesRule_47 5 rfl rfl (by decide) (fun _ => rfl) hm (fun v12 hm => ?_)
        refine cf_goto C (tgt := 7) dX7_doesRule_50 (by decide) ?_
        refine cf_sub C [1, 2, 3, 4, 5, 0] rfl ?_
        exact ih x1 x2 x3 x4 v12 _ hm
def E_X7_doesRule (x1 : Int32) (x2 : Int32) (x3 : Int32) (x4 : Int32) (S : St) (Q : Int32 → St → Prop) : Prop := E_X7_layDown S (fun S1 => ∃ k, L_X7_doesRule_7 Q k x1 x2 x3 x4 0 S1)
set_option maxRecDepth 20000 in
theorem c_X7_doesRule (l : Launch) (G : GX) (x1 : Int32) (x2 : Int32) (x3 : Int32) (x4 : Int32) (S : St) (Q : Int32 → St → Prop)  (hm : E_X7_doesRule x1 x2 x3 x4 S Q) : CTi l yX7_doesRule (Cond.code yX7_doesRule cX7_doesRule 6 (some .boolean) :: AW) { frames := 7, cells := 0, slots := 0, locals := 162 } G enM [.ref (adr G 17 0), .int x1, .int x2, .int x3, .int x4] S Q := by
  refine ct_start_z (by decide) enM_nd (Nat.le_of_ble_eq_true rfl) (fun E hG hl C hR => ?_)
  subst hG
  subst hl
  show CF E S 0 [(0, .ref (adr (vG E) 17 0)), (1, .int x1), (2, .int x2), (3, .int x3), (4, .int x4)] []
  unfold E_X7_doesRule at hm
  refine cf_aload_n C dX7_doesRule_0 rfl 0 rfl ?_
  refine cf_callVv C [] [] okM_17.1 (ocell_7 okM_17.2.1) rfl q980 q51 (c_X7_layDown (vL E) (vG E)  _ _  hm) q978 q981 q72 md_X7_layDown (Nat.le_of_ble_eq_true rfl) (Nat.le_of_ble_eq_true rfl) rfl rfl (Nat.le_of_ble_eq_true rfl) dX7_doesRule_1 (fun S1 hm => ?_)
  refine cf_iconst C dX7_doesRule_4 (v := 0) rfl ?_
  refine cf_istore C (L1 := [(5, .int 0), (0, .ref (adr (vG E) 17 0)), (1, .int x1), (2, .int x2), (3, .int x3), (4, .int x4)]) dX7_doesRule_5 (by decide) rfl ?_
  refine cf_sub C [1, 2, 3, 4, 5, 0] rfl ?_
  obtain ⟨k, hm⟩ := hm
  exact w_L_X7_doesRule_7 C hR k x1 x2 x3 x4 0 _ hm

def J_X7_clears_84   (K47 : Int32 → Int32 → Int32 → Int32 → Int32 → Int32 → St → Prop) (Q : Int32 → St → Prop) (x1 : Int32) (x2 : Int32) (x3 : Int32) (x4 : Int32) (x5 : Int32) (x6 : Int32) (t0 : Int32) (S : St) : Prop := if t0 = 0 then (nmI (x6 + 1) (fun v19 => K47 x1 x2 x3 x4 x5 v19 S)) else (E_X7_doesRule x1 x2 x3 x6 S (fun v21 S20 => if v21 = 0 then (nmI (x6 + 1) (fun v22 => K47 x1 x2 x3 x4 x5 v22 S20)) else (nmI (x6 + 1) (fun v23 => K47 x1 x2 x3 x4 x6 v23 S20))))
set_option maxRecDepth 20000 in
theorem w_J_X7_clears_84 {E : EV} {Q : Int32 → St → Prop}   (C : CX E cX7_clears RX7 8 enM 8 187)   (hR : RTi E cX7_clears Q) {K47 : Int32 → Int32 → Int32 → Int32 → Int32 → Int32 → St → Prop} (hK47 : ∀ (x1 : Int32) (x2 : Int32) (x3 : Int32) (x4 : Int32) (x5 : Int32) (x6 : Int32) (S : St), K47 x1 x2 x3 x4 x5 x6 S → CF E S 47 [(0, .ref (adr (vG E) 17 0)), (1, .int x1), (2, .int x2), (3, .int x3), (4, .int x4), (5, .int x5), (6, .int x6)] []) : ∀ (x1 : Int32) (x2 : Int32) (x3 : Int32) (x4 : Int32) (x5 : Int32) (x6 : Int32) (t0 : Int32) (S : St), J_X7_clears_84 K47 Q x1 x2 x3 x4 x5 x6 t0 S → CF E S 84 [(0, .ref (adr (vG E) 17 0)), (1, .int x1), (2, .int x2), (3, .int x3), (4, .int x4), (5, .int x5), (6, .int x6)] [.int t0] := by
  intro x1 x2 x3 x4 x5 x6 t0 S hm
  unfold J_X7_clears_84 at hm
  refine cf_istore C (L1 := [(7, .int t0), (0, .ref (adr (vG E) 17 0)), (1, .int x1), (2, .int x2), (3, .int x3), (4, .int x4), (5, .int x5), (6, .int x6)]) dX7_clears_84 (by decide) rfl ?_
  refine cf_iload C dX7_clears_86 0 rfl ?_
  refine cf_if_eq C (tgt := 108) dX7_clears_88 (by decide) hm (fun hm => ?_) (fun hm => ?_)
  · refine cf_iload C dX7_clears_108 6 rfl ?_
    refine cf_istore C (L1 := [(5, .int x5), (7, .int t0), (0, .ref (adr (vG E) 17 0)), (1, .int x1), (2, .int x2), (3, .int x3), (4, .int x4), (6, .int x6)]) dX7_clears_110 (by decide) rfl ?_
    refine cf_iincN C (L1 := fun v19 => [(6, .int v19), (5, .int x5), (7, .int t0), (0, .ref (adr (vG E) 17 0)), (1, .int x1), (2, .int x2), (3, .int x3), (4, .int x4)]) dX7_clears_112 7 rfl rfl (by decide) (fun _ => rfl) hm (fun v19 hm => ?_)
    refine cf_goto C (tgt := 47) dX7_clears_115 (by decide) ?_
    refine cf_sub C [3, 4, 5, 6, 7, 1, 0] rfl ?_
    exact hK47 x1 x2 x3 x4 x5 v19 _ hm
  · refine cf_aload_n C dX7_clears_91 rfl 1 rfl ?_
    refine cf_iload_n C dX7_clears_92 rfl 2 rfl ?_
    refine cf_iload_n C dX7_clears_93 rfl 3 rfl ?_
    refine cf_iload_n C dX7_clears_94 rfl 4 rfl ?_
    refine cf_iload C dX7_clears_95 7 rfl ?_
    refine cf_callVi C [.int x1, .int x2, .int x3, .int x6] [] okM_17.1 (ocell_7 okM_17.2.1) rfl q1003 q53 (c_X7_doesRule (vL E) (vG E) x1 x2 x3 x6 _ _  hm) q1001 q1004 q72 md_X7_doesRule (Nat.le_of_ble_eq_true rfl) (Nat.le_of_ble_eq_true rfl) rfl rfl (Nat.le_of_ble_eq_true rfl) dX7_clears_97 (fun v21 S20 hm => ?_)
    refine cf_if_eq C (tgt := 108) dX7_clears_100 (by decide) hm (fun hm => ?_) (fun hm => ?_)
    · refine cf_iload C dX7_clears_108 6 rfl ?_
      refine cf_istore C (L1 := [(5, .int x5), (7, .int t0), (0, .ref (adr (vG E) 17 0)), (1, .int x1), (2, .int x2), (3, .int x3), (4, .int x4), (6, .int x6)]) dX7_clears_110 (by decide) rfl ?_
      refine cf_iincN C (L1 := fun v22 => [(6, .int v22), (5, .int x5), (7, .int t0), (0, .ref (adr (vG E) 17 0)), (1, .int x1), (2, .int x2), (3, .int x3), (4, .int x4)]) dX7_clears_112 7 rfl rfl (by decide) (fun _ => rfl) hm (fun v22 hm => ?_)
      refine cf_goto C (tgt := 47) dX7_clears_115 (by decide) ?_
      refine cf_sub C [3, 4, 5, 6, 7, 1, 0] rfl ?_
      exact hK47 x1 x2 x3 x4 x5 v22 _ hm
    · refine cf_iload C dX7_clears_103 7 rfl ?_
      refine cf_goto C (tgt := 110) dX7_clears_105 (by decide) ?_
      refine cf_istore C (L1 := [(5, .int x6), (7, .int t0), (0, .ref (adr (vG E) 17 0)), (1, .int x1), (2, .int x2), (3, .int x3), (4, .int x4), (6, .int x6)]) dX7_clears_110 (by decide) rfl ?_
      refine cf_iincN C (L1 := fun v23 => [(6, .int v23), (5, .int x6), (7, .int t0), (0, .ref (adr (vG E) 17 0)), (1, .int x1), (2, .int x2), (3, .int x3), (4, .int x4)]) dX7_clears_112 7 rfl rfl (by decide) (fun _ => rfl) hm (fun v23 hm => ?_)
      refine cf_goto C (tgt := 47) dX7_clears_115 (by decide) ?_
      refine cf_sub C [3, 4, 5, 6, 7, 1, 0] rfl ?_
      exact hK47 x1 x2 x3 x4 x6 v23 _ hm
def L_X7_clears_47    (Q : Int32 → St → Prop) : Nat → Int32 → Int32 → Int32 → Int32 → Int32 → Int32 → St → Prop
  | 0 => fun _ _ _ _ _ _ _ => False
  | n + 1 => fun x1 x2 x3 x4 x5 x6 S => vp_in 5 387 ∧ (if (1 <<< ((S.2 17 0 (5 : Int32).toNatClampNeg) &&& 31)) ≤ x6 then (if x5 = (-1) then (E_X7_error 2 S (fun v18 S17 => Q v18 S17)) else (if x4 = 0 then (E_X7_manyIn x5 S (fun v16 S15 => Q v16 S15)) else (Q x5 S))) else (if x5 = (-1) then (J_X7_clears_84 (L_X7_clears_47 Q n) Q x1 x2 x3 x4 x5 x6 1 S) else (E_X7_manyIn x6 S (fun v25 S24 => E_X7_manyIn x5 S24 (fun v27 S26 => if v27 ≤ v25 then (J_X7_clears_84 (L_X7_clears_47 Q n) Q x1 x2 x3 x4 x5 x6 0 S26) else (J_X7_clears_84 (L_X7_clears_47 Q n) Q x1 x2 x3 x4 x5 x6 1 S26))))))
set_option maxRecDepth 20000 in
theorem w_L_X7_clears_47 {E : EV} {Q : Int32 → St → Prop}   (C : CX E cX7_clears RX7 8 enM 8 187)   (hR : RTi E cX7_clears Q) : ∀ (n : Nat) (x1 : Int32) (x2 : Int32) (x3 : Int32) (x4 : Int32) (x5 : Int32) (x6 : Int32) (S : St), L_X7_clears_47 Q n x1 x2 x3 x4 x5 x6 S → CF E S 47 [(0, .ref (adr (vG E) 17 0)), (1, .int x1), (2, .int x2), (3, .int x3), (4, .int x4), (5, .int x5), (6, .int x6)] [] := by
  intro n
  induction n with
  | zero =>
    intro x1 x2 x3 x4 x5 x6 S hm
    exact hm.elim
  | succ n ih =>
    intro x1 x2 x3 x4 x5 x6 S hm
    unfold L_X7_clears_47 at hm
    refine cf_iload C dX7_clears_47 6 rfl ?_
    refine cf_iconst C dX7_clears_49 (v := 1) rfl ?_
    refine cf_aload_n C dX7_clears_50 rfl 0 rfl ?_
    refine gf_7_0 C inX7 okM_17 q694 dX7_clears_51 ?_
    refine cf_iconst C dX7_clears_54 (v := 5) rfl ?_
    refine cf_iald C (okA_of 0 okM_17 rfl (by decide) (by decide) (by decide)) dX7_clears_55 hm (fun hm => ?_)
    refine cf_ishl C dX7_clears_56 ?_
    refine cf_icmp_ge C (tgt := 118) dX7_clears_57 (by decide) hm (fun hm => ?_) (fun hm => ?_)
    · refine cf_iload C dX7_clears_118 5 rfl ?_
      refine cf_iconst C dX7_clears_120 (v := (-1)) rfl ?_
      refine cf_icmp_ne C (tgt := 132) dX7_clears_121 (by decide) hm (fun hm => ?_) (fun hm => ?_)
      · refine cf_iload C dX7_clears_132 4 rfl ?_
        refine cf_if_ne C (tgt := 145) dX7_clears_134 (by decide) hm (fun hm => ?_) (fun hm => ?_)
        · refine cf_iload C dX7_clears_145 5 rfl ?_
          exact hR _ _ _ _ dX7_clears_147 hm
        · refine cf_iload C dX7_clears_137 5 rfl ?_
          refine cf_callSi C [.int x5] [] q999 (c_X7_manyIn (vL E) (vG E) x5 _ _  hm) q998 q1000 q72 md_X7_manyIn (Nat.le_of_ble_eq_true rfl) (Nat.le_of_ble_eq_true rfl) rfl rfl (Nat.le_of_ble_eq_true rfl) dX7_clears_139 (fun v16 S15 hm => ?_)
          refine cf_goto C (tgt := 147) dX7_clears_142 (by decide) ?_
          exact hR _ _ _ _ dX7_clears_147 hm
      · refine cf_aload_n C dX7_clears_124 rfl 0 rfl ?_
        refine cf_iconst C dX7_clears_125 (v := 2) rfl ?_
        refine cf_callVi C [.int 2] [] okM_17.1 (ocell_7 okM_17.2.1) rfl q771 q19 (c_X7_error (vL E) (vG E) 2 _ _  hm) q769 q772 q72 md_X7_error (Nat.le_of_ble_eq_true rfl) (Nat.le_of_ble_eq_true rfl) rfl rfl (Nat.le_of_ble_eq_true rfl) dX7_clears_126 (fun v18 S17 hm => ?_)
        refine cf_goto C (tgt := 147) dX7_clears_129 (by decide) ?_
        exact hR _ _ _ _ dX7_clears_147 hm
    · refine cf_iload C dX7_clears_60 5 rfl ?_
      refine cf_iconst C dX7_clears_62 (v := (-1)) rfl ?_
      refine cf_icmp_eq C (tgt := 79) dX7_clears_63 (by decide) hm (fun hm => ?_) (fun hm => ?_)
      · refine cf_iconst C dX7_clears_79 (v := 1) rfl ?_
        refine cf_goto C (tgt := 84) dX7_clears_80 (by decide) ?_
        exact w_J_X7_clears_84 C hR ih x1 x2 x3 x4 x5 x6 1 _ hm
      · refine cf_iload C dX7_clears_66 6 rfl ?_
        refine cf_callSi C [.int x6] [] q999 (c_X7_manyIn (vL E) (vG E) x6 _ _  hm) q998 q1000 q72 md_X7_manyIn (Nat.le_of_ble_eq_true rfl) (Nat.le_of_ble_eq_true rfl) rfl rfl (Nat.le_of_ble_eq_true rfl) dX7_clears_68 (fun v25 S24 hm => ?_)
        refine cf_iload C dX7_clears_71 5 rfl ?_
        refine cf_callSi C [.int x5] [.int v25] q999 (c_X7_manyIn (vL E) (vG E) x5 _ _  hm) q998 q1000 q72 md_X7_manyIn (Nat.le_of_ble_eq_true rfl) (Nat.le_of_ble_eq_true rfl) rfl rfl (Nat.le_of_ble_eq_true rfl) dX7_clears_73 (fun v27 S26 hm => ?_)
        refine cf_icmp_ge C (tgt := 83) dX7_clears_76 (by decide) hm (fun hm => ?_) (fun hm => ?_)
        · refine cf_iconst C dX7_clears_83 (v := 0) rfl ?_
          exact w_J_X7_clears_84 C hR ih x1 x2 x3 x4 x5 x6 0 _ hm
        · refine cf_iconst C dX7_clears_79 (v := 1) rfl ?_
          refine cf_goto C (tgt := 84) dX7_clears_80 (by decide) ?_
          exact w_J_X7_clears_84 C hR ih x1 x2 x3 x4 x5 x6 1 _ hm
def E_X7_clears (x1 : Int32) (x2 : Int32) (x3 : Int32) (x4 : Int32) (S : St) (Q : Int32 → St → Prop) : Prop := E_X7_isDish x1 S (fun v2 S1 => if v2 = 0 then (E_X7_error 1 S1 (fun v4 S3 => Q v4 S3)) else (E_X7_in x2 0 6 S1 (fun v6 S5 => if v6 = 0 then (E_X7_error 1 S5 (fun v8 S7 => Q v8 S7)) else (E_X7_isHunger x3 S5 (fun v10 S9 => if v10 = 0 then (E_X7_error 1 S9 (fun v12 S11 => Q v12 S11)) else (E_X7_in x4 0 1 S9 (fun v14 S13 => if v14 = 0 then (E_X7_error 1 S13 (fun v29 S28 => Q v29 S28)) else (∃ k, L_X7_clears_47 Q k x1 x2 x3 x4 (-1) 0 S13))))))))
set_option maxRecDepth 20000 in
theorem c_X7_clears (l : Launch) (G : GX) (x1 : Int32) (x2 : Int32) (x3 : Int32) (x4 : Int32) (S : St) (Q : Int32 → St → Prop)  (hm : E_X7_clears x1 x2 x3 x4 S Q) : CTi l yX7_clears (Cond.code yX7_clears cX7_clears 8 (some .int) :: AW) { frames := 8, cells := 0, slots := 0, locals := 187 } G enM [.ref (adr G 17 0), .int x1, .int x2, .int x3, .int x4] S Q := by
  refine ct_start_i (by decide) enM_nd (Nat.le_of_ble_eq_true rfl) (fun E hG hl C hR => ?_)
  subst hG
  subst hl
  show CF E S 0 [(0, .ref (adr (vG E) 17 0)), (1, .int x1), (2, .int x2), (3, .int x3), (4, .int x4)] []
  unfold E_X7_clears at hm
  refine cf_aload_n C dX7_clears_0 rfl 0 rfl ?_
  refine cf_iload_n C dX7_clears_1 rfl 1 rfl ?_
  refine cf_callVi C [.int x1] [] okM_17.1 (ocell_7 okM_17.2.1) rfl q848 q33 (c_X7_isDish (vL E) (vG E) x1 _ _  hm) q846 q849 q72 md_X7_isDish (Nat.le_of_ble_eq_true rfl) (Nat.le_of_ble_eq_true rfl) rfl rfl (Nat.le_of_ble_eq_true rfl) dX7_clears_2 (fun v2 S1 hm => ?_)
  refine cf_if_eq C (tgt := 35) dX7_clears_5 (by decide) hm (fun hm => ?_) (fun hm => ?_)
  · refine cf_aload_n C dX7_clears_35 rfl 0 rfl ?_
    refine cf_iconst C dX7_clears_36 (v := 1) rfl ?_
    refine cf_callVi C [.int 1] [] okM_17.1 (ocell_7 okM_17.2.1) rfl q771 q19 (c_X7_error (vL E) (vG E) 1 _ _  hm) q769 q772 q72 md_X7_error (Nat.le_of_ble_eq_true rfl) (Nat.le_of_ble_eq_true rfl) rfl rfl (Nat.le_of_ble_eq_true rfl) dX7_clears_37 (fun v4 S3 hm => ?_)
    exact hR _ _ _ _ dX7_clears_40 hm
  · refine cf_iload_n C dX7_clears_8 rfl 2 rfl ?_
    refine cf_iconst C dX7_clears_9 (v := 0) rfl ?_
    refine cf_bipush C dX7_clears_10 (v := 6) rfl ?_
    refine cf_callSi C [.int x2, .int 0, .int 6] [] q767 (c_X7_in (vL E) (vG E) x2 0 6 _ _  hm) q766 q768 q72 md_X7_in (Nat.le_of_ble_eq_true rfl) (Nat.le_of_ble_eq_true rfl) rfl rfl (Nat.le_of_ble_eq_true rfl) dX7_clears_12 (fun v6 S5 hm => ?_)
    refine cf_if_eq C (tgt := 35) dX7_clears_15 (by decide) hm (fun hm => ?_) (fun hm => ?_)
    · refine cf_aload_n C dX7_clears_35 rfl 0 rfl ?_
      refine cf_iconst C dX7_clears_36 (v := 1) rfl ?_
      refine cf_callVi C [.int 1] [] okM_17.1 (ocell_7 okM_17.2.1) rfl q771 q19 (c_X7_error (vL E) (vG E) 1 _ _  hm) q769 q772 q72 md_X7_error (Nat.le_of_ble_eq_true rfl) (Nat.le_of_ble_eq_true rfl) rfl rfl (Nat.le_of_ble_eq_true rfl) dX7_clears_37 (fun v8 S7 hm => ?_)
      exact hR _ _ _ _ dX7_clears_40 hm
    · refine cf_iload_n C dX7_clears_18 rfl 3 rfl ?_
      refine cf_callSi C [.int x3] [] q930 (c_X7_isHunger (vL E) (vG E) x3 _ _  hm) q929 q931 q72 md_X7_isHunger (Nat.le_of_ble_eq_true rfl) (Nat.le_of_ble_eq_true rfl) rfl rfl (Nat.le_of_ble_eq_true rfl) dX7_clears_19 (fun v10 S9 hm => ?_)
      refine cf_if_eq C (tgt := 35) dX7_clears_22 (by decide) hm (fun hm => ?_) (fun hm => ?_)
      · refine cf_aload_n C dX7_clears_35 rfl 0 rfl ?_
        refine cf_iconst C dX7_clears_36 (v := 1) rfl ?_
        refine cf_callVi C [.int 1] [] okM_17.1 (ocell_7 okM_17.2.1) rfl q771 q19 (c_X7_error (vL E) (vG E) 1 _ _  hm) q769 q772 q72 md_X7_error (Nat.le_of_ble_eq_true rfl) (Nat.le_of_ble_eq_true rfl) rfl rfl (Nat.le_of_ble_eq_true rfl) dX7_clears_37 (fun v12 S11 hm => ?_)
        exact hR _ _ _ _ dX7_clears_40 hm
      · refine cf_iload C dX7_clears_25 4 rfl ?_
        refine cf_iconst C dX7_clears_27 (v := 0) rfl ?_
        refine cf_iconst C dX7_clears_28 (v := 1) rfl ?_
        refine cf_callSi C [.int x4, .int 0, .int 1] [] q767 (c_X7_in (vL E) (vG E) x4 0 1 _ _  hm) q766 q768 q72 md_X7_in (Nat.le_of_ble_eq_true rfl) (Nat.le_of_ble_eq_true rfl) rfl rfl (Nat.le_of_ble_eq_true rfl) dX7_clears_29 (fun v14 S13 hm => ?_)
        refine cf_if_ne C (tgt := 41) dX7_clears_32 (by decide) hm (fun hm => ?_) (fun hm => ?_)
        · refine cf_iconst C dX7_clears_41 (v := (-1)) rfl ?_
          refine cf_istore C (L1 := [(5, .int ((-1))), (0, .ref (adr (vG E) 17 0)), (1, .int x1), (2, .int x2), (3, .int x3), (4, .int x4)]) dX7_clears_42 (by decide) rfl ?_
          refine cf_iconst C dX7_clears_44 (v := 0) rfl ?_
          refine cf_istore C (L1 := [(6, .int 0), (5, .int ((-1))), (0, .ref (adr (vG E) 17 0)), (1, .int x1), (2, .int x2), (3, .int x3), (4, .int x4)]) dX7_clears_45 (by decide) rfl ?_
          refine cf_sub C [2, 3, 4, 5, 6, 1, 0] rfl ?_
          obtain ⟨k, hm⟩ := hm
          exact w_L_X7_clears_47 C hR k x1 x2 x3 x4 (-1) 0 _ hm
        · refine cf_aload_n C dX7_clears_35 rfl 0 rfl ?_
          refine cf_iconst C dX7_clears_36 (v := 1) rfl ?_
          refine cf_callVi C [.int 1] [] okM_17.1 (ocell_7 okM_17.2.1) rfl q771 q19 (c_X7_error (vL E) (vG E) 1 _ _  hm) q769 q772 q72 md_X7_error (Nat.le_of_ble_eq_true rfl) (Nat.le_of_ble_eq_true rfl) rfl rfl (Nat.le_of_ble_eq_true rfl) dX7_clears_37 (fun v29 S28 hm => ?_)
          exact hR _ _ _ _ dX7_clears_40 hm

def L_X7_keepingSizes_9    (Q : Int32 → St → Prop) : Nat → Int32 → Int32 → Int32 → St → Prop
  | 0 => fun _ _ _ _ => False
  | n + 1 => fun x1 x2 x3 S => vp_in 5 387 ∧ (if (S.2 17 0 (5 : Int32).toNatClampNeg) ≤ x3 then (Q x2 S) else (E_X7_isInKeeping x3 x1 S (fun v4 S3 => if v4 = 0 then (nmI (x2 + 0) (fun v5 => nmI (x3 + 1) (fun v6 => L_X7_keepingSizes_9 Q n x1 v5 v6 S3))) else (E_X7_its x3 2 S3 (fun v8 S7 => nmI (x2 + v8) (fun v9 => nmI (x3 + 1) (fun v10 => L_X7_keepingSizes_9 Q n x1 v9 v10 S7)))))))
set_option maxRecDepth 20000 in
theorem w_L_X7_keepingSizes_9 {E : EV} {Q : Int32 → St → Prop}   (C : CX E cX7_keepingSizes RX7 4 enM 5 114)   (hR : RTi E cX7_keepingSizes Q) : ∀ (n : Nat) (x1 : Int32) (x2 : Int32) (x3 : Int32) (S : St), L_X7_keepingSizes_9 Q n x1 x2 x3 S → CF E S 9 [(0, .ref (adr (vG E) 17 0)), (1, .int x1), (2, .int x2), (3, .int x3)] [] := by
  intro n
  induction n with
  | zero =>
    intro x1 x2 x3 S hm
    exact hm.elim
  | succ n ih =>
    intro x1 x2 x3 S hm
    unfold L_X7_keepingSizes_9 at hm
    refine cf_iload_n C dX7_keepingSizes_9 rfl 3 rfl ?_
    refine cf_aload_n C dX7_keepingSizes_10 rfl 0 rfl ?_
    refine gf_7_0 C inX7 okM_17 q694 dX7_keepingSizes_11 ?_
    refine cf_iconst C dX7_keepingSizes_14 (v := 5) rfl ?_
    refine cf_iald C (okA_of 0 okM_17 rfl (by decide) (by decide) (by decide)) dX7_keepingSizes_15 hm (fun hm => ?_)
    refine cf_icmp_ge C (tgt := 47) dX7_keepingSizes_16 (by decide) hm (fun hm => ?_) (fun hm => ?_)
    · refine cf_iload_n C dX7_keepingSizes_47 rfl 2 rfl ?_
      exact hR _ _ _ _ dX7_keepingSizes_48 hm
    · refine cf_iload_n C dX7_keepingSizes_19 rfl 2 rfl ?_
      refine cf_aload_n C dX7_keepingSizes_20 rfl 0 rfl ?_
      refine cf_iload_n C dX7_keepingSizes_21 rfl 3 rfl ?_
      refine cf_iload_n C dX7_keepingSizes_22 rfl 1 rfl ?_
      refine cf_callVi C [.int x3, .int x1] [.int x2] okM_17.1 (ocell_7 okM_17.2.1) rfl q886 q41 (c_X7_isInKeeping (vL E) (vG E) x3 x1 _ _  hm) q884 q887 q72 md_X7_isInKeeping (Nat.le_of_ble_eq_true rfl) (Nat.le_of_ble_eq_true rfl) rfl rfl (Nat.le_of_ble_eq_true rfl) dX7_keepingSizes_23 (fun v4 S3 hm => ?_)
      refine cf_if_eq C (tgt := 38) dX7_keepingSizes_26 (by decide) hm (fun hm => ?_) (fun hm => ?_)
      · refine cf_iconst C dX7_keepingSizes_38 (v := 0) rfl ?_
        refine cf_iadd C dX7_keepingSizes_39 ?_
        refine cf_nmI hm (fun v5 hm => ?_)
        refine cf_istore_n C (L1 := [(2, .int v5), (0, .ref (adr (vG E) 17 0)), (1, .int x1), (3, .int x3)]) dX7_keepingSizes_40 rfl (by decide) rfl ?_
        refine cf_iincN C (L1 := fun v6 => [(3, .int v6), (2, .int v5), (0, .ref (adr (vG E) 17 0)), (1, .int x1)]) dX7_keepingSizes_41 3 rfl rfl (by decide) (fun _ => rfl) hm (fun v6 hm => ?_)
        refine cf_goto C (tgt := 9) dX7_keepingSizes_44 (by decide) ?_
        refine cf_sub C [2, 3, 1, 0] rfl ?_
        exact ih x1 v5 v6 _ hm
      · refine cf_aload_n C dX7_keepingSizes_29 rfl 0 rfl ?_
        refine cf_iload_n C dX7_keepingSizes_30 rfl 3 rfl ?_
        refine cf_iconst C dX7_keepingSizes_31 (v := 2) rfl ?_
        refine cf_callVi C [.int x3, .int 2] [.int x2] okM_17.1 (ocell_7 okM_17.2.1) rfl q860 q36 (c_X7_its (vL E) (vG E) x3 2 _ _  hm) q858 q861 q72 md_X7_its (Nat.le_of_ble_eq_true rfl) (Nat.le_of_ble_eq_true rfl) rfl rfl (Nat.le_of_ble_eq_true rfl) dX7_keepingSizes_32 (fun v8 S7 hm => ?_)
        refine cf_goto C (tgt := 39) dX7_keepingSizes_35 (by decide) ?_
        refine cf_iadd C dX7_keepingSizes_39 ?_
        refine cf_nmI hm (fun v9 hm => ?_)
        refine cf_istore_n C (L1 := [(2, .int v9), (0, .ref (adr (vG E) 17 0)), (1, .int x1), (3, .int x3)]) dX7_keepingSizes_40 rfl (by decide) rfl ?_
        refine cf_iincN C (L1 := fun v10 => [(3, .int v10), (2, .int v9), (0, .ref (adr (vG E) 17 0)), (1, .int x1)]) dX7_keepingSizes_41 3 rfl rfl (by decide) (fun _ => rfl) hm (fun v10 hm => ?_)
        refine cf_goto C (tgt := 9) dX7_keepingSizes_44 (by decide) ?_
        refine cf_sub C [2, 3, 1, 0] rfl ?_
        exact ih x1 v9 v10 _ hm
def E_X7_keepingSizes  (S : St) (Q : Int32 → St → Prop) : Prop := E_X7_findRuler S (fun v2 S1 => ∃ k, L_X7_keepingSizes_9 Q k v2 0 0 S1)
set_option maxRecDepth 20000 in
theorem c_X7_keepingSizes (l : Launch) (G : GX)  (S : St) (Q : Int32 → St → Prop)  (hm : E_X7_keepingSizes  S Q) : CTi l yX7_keepingSizes (Cond.code yX7_keepingSizes cX7_keepingSizes 4 (some .int) :: AW) { frames := 5, cells := 0, slots := 0, locals := 114 } G enM [.ref (adr G 17 0)] S Q := by
  refine ct_start_i (by decide) enM_nd (Nat.le_of_ble_eq_true rfl) (fun E hG hl C hR => ?_)
  subst hG
  subst hl
  show CF E S 0 [(0, .ref (adr (vG E) 17 0))] []
  unfold E_X7_keepingSizes at hm
  refine cf_aload_n C dX7_keepingSizes_0 rfl 0 rfl ?_
  refine cf_callVi C [] [] okM_17.1 (ocell_7 okM_17.2.1) rfl q882 q40 (c_X7_findRuler (vL E) (vG E)  _ _  hm) q880 q883 q72 md_X7_findRuler (Nat.le_of_ble_eq_true rfl) (Nat.le_of_ble_eq_true rfl) rfl rfl (Nat.le_of_ble_eq_true rfl) dX7_keepingSizes_1 (fun v2 S1 hm => ?_)
  refine cf_istore_n C (L1 := [(1, .int v2), (0, .ref (adr (vG E) 17 0))]) dX7_keepingSizes_4 rfl (by decide) rfl ?_
  refine cf_iconst C dX7_keepingSizes_5 (v := 0) rfl ?_
  refine cf_istore_n C (L1 := [(2, .int 0), (1, .int v2), (0, .ref (adr (vG E) 17 0))]) dX7_keepingSizes_6 rfl (by decide) rfl ?_
  refine cf_iconst C dX7_keepingSizes_7 (v := 0) rfl ?_
  refine cf_istore_n C (L1 := [(3, .int 0), (2, .int 0), (1, .int v2), (0, .ref (adr (vG E) 17 0))]) dX7_keepingSizes_8 rfl (by decide) rfl ?_
  refine cf_sub C [3, 2, 1, 0] rfl ?_
  obtain ⟨k, hm⟩ := hm
  exact w_L_X7_keepingSizes_9 C hR k v2 0 0 _ hm
