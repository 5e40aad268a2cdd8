def E_X7_claimsOf (x1 : Int32) (S : St) (Q : Int32 → St → Prop) : Prop := E_X7_its x1 3 S (fun v2 S1 => E_X7_its x1 2 S1 (fun v4 S3 => nmI (v2 + (v4 / 10)) (fun v5 => E_X7_its x1 1 S3 (fun v7 S6 => E_X7_its x1 0 S6 (fun v9 S8 => if v9 = 1 then (Q (v5 + v7) S8) else (if v9 = 2 then (Q (2 * v5) S8) else (if v9 = 3 then (vp_in 0 387 ∧ (if ((S8.2 17 0 (0 : Int32).toNatClampNeg) - (S8.2 17 0 (0 : Int32).toNatClampNeg) / 7 * 7) = 4 then (Q (50 + v7) S8) else (Q v5 S8))) else (if v9 = 4 then (E_X7_its x1 2 S8 (fun v11 S10 => Q ((v5 + v7) + (v11 - v11 / 7 * 7)) S10)) else (if v9 = 5 then (Q ((2 * v5) + 40) S8) else (if v9 = 6 then (E_X7_its x1 4 S8 (fun v13 S12 => Q (v5 - v13) S12)) else (Q v5 S8)))))))))))
set_option maxRecDepth 20000 in
theorem c_X7_claimsOf (l : Launch) (G : GX) (x1 : Int32) (S : St) (Q : Int32 → St → Prop)  (hm : E_X7_claimsOf x1 S Q) : CTi l yX7_claimsOf (Cond.code yX7_claimsOf cX7_claimsOf 4 (some .int) :: AW) { frames := 1, cells := 0, slots := 0, locals := 22 } G enM [.ref (adr G 17 0), .int x1] S Q := by
  refine ct_start_i (by decide) enM_nd (Nat.le_of_ble_eq_true rfl) (fun E hG hl C hR => ?_)
  subst hG
  subst hl
  show CF E S 0 [(0, .ref (adr (vG E) 17 0)), (1, .int x1)] []
  unfold E_X7_claimsOf at hm
  refine cf_aload_n C dX7_claimsOf_0 rfl 0 rfl ?_
  refine cf_iload_n C dX7_claimsOf_1 rfl 1 rfl ?_
  refine cf_iconst C dX7_claimsOf_2 (v := 3) rfl ?_
  refine cf_callVi C [.int x1, .int 3] [] okM_17.1 (ocell_7 okM_17.2.1) rfl q860 q36 (c_X7_its (vL E) (vG E) x1 3 _ _  hm) q858 q861 q72 md_X7_its (Nat.le_of_ble_eq_true rfl) (Nat.le_of_ble_eq_true rfl) rfl rfl (Nat.le_of_ble_eq_true rfl) dX7_claimsOf_3 (fun v2 S1 hm => ?_)
  refine cf_aload_n C dX7_claimsOf_6 rfl 0 rfl ?_
  refine cf_iload_n C dX7_claimsOf_7 rfl 1 rfl ?_
  refine cf_iconst C dX7_claimsOf_8 (v := 2) rfl ?_
  refine cf_callVi C [.int x1, .int 2] [.int v2] okM_17.1 (ocell_7 okM_17.2.1) rfl q860 q36 (c_X7_its (vL E) (vG E) x1 2 _ _  hm) q858 q861 q72 md_X7_its (Nat.le_of_ble_eq_true rfl) (Nat.le_of_ble_eq_true rfl) rfl rfl (Nat.le_of_ble_eq_true rfl) dX7_claimsOf_9 (fun v4 S3 hm => ?_)
  refine cf_bipush C dX7_claimsOf_12 (v := 10) rfl ?_
  refine cf_idivC C dX7_claimsOf_14 (by decide) ?_
  refine cf_iadd C dX7_claimsOf_15 ?_
  refine cf_nmI hm (fun v5 hm => ?_)
  refine cf_istore_n C (L1 := [(2, .int v5), (0, .ref (adr (vG E) 17 0)), (1, .int x1)]) dX7_claimsOf_16 rfl (by decide) rfl ?_
  refine cf_aload_n C dX7_claimsOf_17 rfl 1 rfl ?_
  refine cf_iload_n C dX7_claimsOf_18 rfl 2 rfl ?_
  refine cf_iconst C dX7_claimsOf_19 (v := 1) rfl ?_
  refine cf_callVi C [.int x1, .int 1] [] okM_17.1 (ocell_7 okM_17.2.1) rfl q860 q36 (c_X7_its (vL E) (vG E) x1 1 _ _  hm) q858 q861 q72 md_X7_its (Nat.le_of_ble_eq_true rfl) (Nat.le_of_ble_eq_true rfl) rfl rfl (Nat.le_of_ble_eq_true rfl) dX7_claimsOf_20 (fun v7 S6 hm => ?_)
  refine cf_istore_n C (L1 := [(3, .int v7), (2, .int v5), (0, .ref (adr (vG E) 17 0)), (1, .int x1)]) dX7_claimsOf_23 rfl (by decide) rfl ?_
  refine cf_aload_n C dX7_claimsOf_24 rfl 2 rfl ?_
  refine cf_iload_n C dX7_claimsOf_25 rfl 3 rfl ?_
  refine cf_iconst C dX7_claimsOf_26 (v := 0) rfl ?_
  refine cf_callVi C [.int x1, .int 0] [] okM_17.1 (ocell_7 okM_17.2.1) rfl q860 q36 (c_X7_its (vL E) (vG E) x1 0 _ _  hm) q858 q861 q72 md_X7_its (Nat.le_of_ble_eq_true rfl) (Nat.le_of_ble_eq_true rfl) rfl rfl (Nat.le_of_ble_eq_true rfl) dX7_claimsOf_27 (fun v9 S8 hm => ?_)
  rcases ifc hm with ⟨hx, hm⟩ | ⟨h30_1, hm⟩
  · refine cf_tsIn C 1 dX7_claimsOf_30 (by rw [hx]; rfl) (by decide) (by decide) (off := 38) (by rfl) (tgt := 68) (by decide) ?_
    refine cf_iload_n C dX7_claimsOf_68 rfl 1 rfl ?_
    refine cf_iload_n C dX7_claimsOf_69 rfl 0 rfl ?_
    refine cf_iadd C dX7_claimsOf_70 ?_
    exact hR _ _ _ _ dX7_claimsOf_71 hm
  rcases ifc hm with ⟨hx, hm⟩ | ⟨h30_2, hm⟩
  · refine cf_tsIn C 2 dX7_claimsOf_30 (by rw [hx]; rfl) (by decide) (by decide) (off := 42) (by rfl) (tgt := 72) (by decide) ?_
    refine cf_iconst C dX7_claimsOf_72 (v := 2) rfl ?_
    refine cf_iload_n C dX7_claimsOf_73 rfl 1 rfl ?_
    refine cf_imul C dX7_claimsOf_74 ?_
    exact hR _ _ _ _ dX7_claimsOf_75 hm
  rcases ifc hm with ⟨hx, hm⟩ | ⟨h30_3, hm⟩
  · refine cf_tsIn C 3 dX7_claimsOf_30 (by rw [hx]; rfl) (by decide) (by decide) (off := 46) (by rfl) (tgt := 76) (by decide) ?_
    refine cf_aload_n C dX7_claimsOf_76 rfl 2 rfl ?_
    refine gf_7_0 C inX7 okM_17 q694 dX7_claimsOf_77 ?_
    refine cf_iconst C dX7_claimsOf_80 (v := 0) rfl ?_
    refine cf_iald C (okA_of 0 okM_17 rfl (by decide) (by decide) (by decide)) dX7_claimsOf_81 hm (fun hm => ?_)
    refine cf_bipush C dX7_claimsOf_82 (v := 7) rfl ?_
    refine cf_iremC C dX7_claimsOf_84 (by decide) ?_
    refine cf_iconst C dX7_claimsOf_85 (v := 4) rfl ?_
    refine cf_icmp_ne C (tgt := 96) dX7_claimsOf_86 (by decide) hm (fun hm => ?_) (fun hm => ?_)
    · refine cf_iload_n C dX7_claimsOf_96 rfl 1 rfl ?_
      exact hR _ _ _ _ dX7_claimsOf_97 hm
    · refine cf_bipush C dX7_claimsOf_89 (v := 50) rfl ?_
      refine cf_iload_n C dX7_claimsOf_91 rfl 0 rfl ?_
      refine cf_iadd C dX7_claimsOf_92 ?_
      refine cf_goto C (tgt := 97) dX7_claimsOf_93 (by decide) ?_
      exact hR _ _ _ _ dX7_claimsOf_97 hm
  rcases ifc hm with ⟨hx, hm⟩ | ⟨h30_4, hm⟩
  · refine cf_tsIn C 4 dX7_claimsOf_30 (by rw [hx]; rfl) (by decide) (by decide) (off := 68) (by rfl) (tgt := 98) (by decide) ?_
    refine cf_iload_n C dX7_claimsOf_98 rfl 1 rfl ?_
    refine cf_iload_n C dX7_claimsOf_99 rfl 0 rfl ?_
    refine cf_iadd C dX7_claimsOf_100 ?_
    refine cf_aload_n C dX7_claimsOf_101 rfl 2 rfl ?_
    refine cf_iload_n C dX7_claimsOf_102 rfl 3 rfl ?_
    refine cf_iconst C dX7_claimsOf_103 (v := 2) rfl ?_
    refine cf_callVi C [.int x1, .int 2] [.int (v5 + v7)] okM_17.1 (ocell_7 okM_17.2.1) rfl q860 q36 (c_X7_its (vL E) (vG E) x1 2 _ _  hm) q858 q861 q72 md_X7_its (Nat.le_of_ble_eq_true rfl) (Nat.le_of_ble_eq_true rfl) rfl rfl (Nat.le_of_ble_eq_true rfl) dX7_claimsOf_104 (fun v11 S10 hm => ?_)
    refine cf_bipush C dX7_claimsOf_107 (v := 7) rfl ?_
    refine cf_iremC C dX7_claimsOf_109 (by decide) ?_
    refine cf_iadd C dX7_claimsOf_110 ?_
    exact hR _ _ _ _ dX7_claimsOf_111 hm
  rcases ifc hm with ⟨hx, hm⟩ | ⟨h30_5, hm⟩
  · refine cf_tsIn C 5 dX7_claimsOf_30 (by rw [hx]; rfl) (by decide) (by decide) (off := 82) (by rfl) (tgt := 112) (by decide) ?_
    refine cf_iconst C dX7_claimsOf_112 (v := 2) rfl ?_
    refine cf_iload_n C dX7_claimsOf_113 rfl 1 rfl ?_
    refine cf_imul C dX7_claimsOf_114 ?_
    refine cf_bipush C dX7_claimsOf_115 (v := 40) rfl ?_
    refine cf_iadd C dX7_claimsOf_117 ?_
    exact hR _ _ _ _ dX7_claimsOf_118 hm
  rcases ifc hm with ⟨hx, hm⟩ | ⟨h30_6, hm⟩
  · refine cf_tsIn C 6 dX7_claimsOf_30 (by rw [hx]; rfl) (by decide) (by decide) (off := 89) (by rfl) (tgt := 119) (by decide) ?_
    refine cf_iload_n C dX7_claimsOf_119 rfl 1 rfl ?_
    refine cf_aload_n C dX7_claimsOf_120 rfl 2 rfl ?_
    refine cf_iload_n C dX7_claimsOf_121 rfl 3 rfl ?_
    refine cf_iconst C dX7_claimsOf_122 (v := 4) rfl ?_
    refine cf_callVi C [.int x1, .int 4] [.int v5] okM_17.1 (ocell_7 okM_17.2.1) rfl q860 q36 (c_X7_its (vL E) (vG E) x1 4 _ _  hm) q858 q861 q72 md_X7_its (Nat.le_of_ble_eq_true rfl) (Nat.le_of_ble_eq_true rfl) rfl rfl (Nat.le_of_ble_eq_true rfl) dX7_claimsOf_123 (fun v13 S12 hm => ?_)
    refine cf_isub C dX7_claimsOf_126 ?_
    exact hR _ _ _ _ dX7_claimsOf_127 hm
  refine cf_tsD C 6 [1, 2, 3, 4, 5, 6] dX7_claimsOf_30 (by decide) (by decide +kernel) (List.forall_mem_cons.mpr ⟨lv_neT h30_1 rfl, (List.forall_mem_cons.mpr ⟨lv_neT h30_2 rfl, (List.forall_mem_cons.mpr ⟨lv_neT h30_3 rfl, (List.forall_mem_cons.mpr ⟨lv_neT h30_4 rfl, (List.forall_mem_cons.mpr ⟨lv_neT h30_5 rfl, (List.forall_mem_cons.mpr ⟨lv_neT h30_6 rfl, (fun _ h => absurd h List.not_mem_nil)⟩)⟩)⟩)⟩)⟩)⟩) (tgt := 128) (by decide) ?_
  refine cf_iload_n C dX7_claimsOf_128 rfl 1 rfl ?_
  exact hR _ _ _ _ dX7_claimsOf_129 hm

def E_X7_joined (x0 : Int32) (x1 : Int32) (x2 : Int32) (S : St) (Q : Int32 → St → Prop) : Prop := if x0 = 37 then (if x2 = 0 then (Q 0 S) else (if x2 = (-1) then (Q 0 S) else ((¬ x2 = 0) ∧ (Q (x1 - x1 / x2 * x2) S)))) else (if x0 = 38 then (if x1 = 0 then (Q 0 S) else (if x2 = 0 then (Q 0 S) else (Q 1 S))) else (if x0 = 42 then (Q (x1 * x2) S) else (if x0 = 43 then (Q (x1 + x2) S) else (if x0 = 45 then (Q (x1 - x2) S) else (if x0 = 47 then (if x2 = 0 then (Q 0 S) else (if x2 = (-1) then (Q (-x1) S) else ((¬ x2 = 0) ∧ (Q (x1 / x2) S)))) else (if x0 = 60 then (if x2 ≤ x1 then (Q 0 S) else (Q 1 S)) else (if x0 = 61 then (if x1 = x2 then (Q 1 S) else (Q 0 S)) else (if x0 = 62 then (if x1 ≤ x2 then (Q 0 S) else (Q 1 S)) else (if x1 = 0 then (if x2 = 0 then (Q 0 S) else (Q 1 S)) else (Q 1 S))))))))))
set_option maxRecDepth 20000 in
theorem c_X7_joined (l : Launch) (G : GX) (x0 : Int32) (x1 : Int32) (x2 : Int32) (S : St) (Q : Int32 → St → Prop)  (hm : E_X7_joined x0 x1 x2 S Q) : CTi l yX7_joined (Cond.code yX7_joined cX7_joined 3 (some .int) :: AW) { frames := 0, cells := 0, slots := 0, locals := 0 } G enM [.int x0, .int x1, .int x2] S Q := by
  refine ct_start_i (by decide) enM_nd (Nat.le_of_ble_eq_true rfl) (fun E hG hl C hR => ?_)
  subst hG
  subst hl
  show CF E S 0 [(0, .int x0), (1, .int x1), (2, .int x2)] []
  unfold E_X7_joined at hm
  refine cf_iload_n C dX7_joined_0 rfl 0 rfl ?_
  rcases ifc hm with ⟨hx, hm⟩ | ⟨h1_37, hm⟩
  · refine cf_tsIn C 37 dX7_joined_1 (by rw [hx]; rfl) (by decide) (by decide) (off := 153) (by rfl) (tgt := 154) (by decide) ?_
    refine cf_iload_n C dX7_joined_154 rfl 2 rfl ?_
    refine cf_if_eq C (tgt := 163) dX7_joined_155 (by decide) hm (fun hm => ?_) (fun hm => ?_)
    · refine cf_iconst C dX7_joined_163 (v := 0) rfl ?_
      refine cf_goto C (tgt := 170) dX7_joined_164 (by decide) ?_
      exact hR _ _ _ _ dX7_joined_170 hm
    · refine cf_iload_n C dX7_joined_158 rfl 2 rfl ?_
      refine cf_iconst C dX7_joined_159 (v := (-1)) rfl ?_
      refine cf_icmp_ne C (tgt := 167) dX7_joined_160 (by decide) hm (fun hm => ?_) (fun hm => ?_)
      · refine cf_iload_n C dX7_joined_167 rfl 1 rfl ?_
        refine cf_iload_n C dX7_joined_168 rfl 2 rfl ?_
        refine cf_irem C dX7_joined_169 hm (fun hm => ?_)
        exact hR _ _ _ _ dX7_joined_170 hm
      · refine cf_iconst C dX7_joined_163 (v := 0) rfl ?_
        refine cf_goto C (tgt := 170) dX7_joined_164 (by decide) ?_
        exact hR _ _ _ _ dX7_joined_170 hm
  rcases ifc hm with ⟨hx, hm⟩ | ⟨h1_38, hm⟩
  · refine cf_tsIn C 38 dX7_joined_1 (by rw [hx]; rfl) (by decide) (by decide) (off := 203) (by rfl) (tgt := 204) (by decide) ?_
    refine cf_iload_n C dX7_joined_204 rfl 1 rfl ?_
    refine cf_if_eq C (tgt := 216) dX7_joined_205 (by decide) hm (fun hm => ?_) (fun hm => ?_)
    · refine cf_iconst C dX7_joined_216 (v := 0) rfl ?_
      exact hR _ _ _ _ dX7_joined_217 hm
    · refine cf_iload_n C dX7_joined_208 rfl 2 rfl ?_
      refine cf_if_eq C (tgt := 216) dX7_joined_209 (by decide) hm (fun hm => ?_) (fun hm => ?_)
      · refine cf_iconst C dX7_joined_216 (v := 0) rfl ?_
        exact hR _ _ _ _ dX7_joined_217 hm
      · refine cf_iconst C dX7_joined_212 (v := 1) rfl ?_
        refine cf_goto C (tgt := 217) dX7_joined_213 (by decide) ?_
        exact hR _ _ _ _ dX7_joined_217 hm
  rcases ifc hm with ⟨hx, hm⟩ | ⟨h1_42, hm⟩
  · refine cf_tsIn C 42 dX7_joined_1 (by rw [hx]; rfl) (by decide) (by decide) (off := 127) (by rfl) (tgt := 128) (by decide) ?_
    refine cf_iload_n C dX7_joined_128 rfl 1 rfl ?_
    refine cf_iload_n C dX7_joined_129 rfl 2 rfl ?_
    refine cf_imul C dX7_joined_130 ?_
    exact hR _ _ _ _ dX7_joined_131 hm
  rcases ifc hm with ⟨hx, hm⟩ | ⟨h1_43, hm⟩
  · refine cf_tsIn C 43 dX7_joined_1 (by rw [hx]; rfl) (by decide) (by decide) (off := 119) (by rfl) (tgt := 120) (by decide) ?_
    refine cf_iload_n C dX7_joined_120 rfl 1 rfl ?_
    refine cf_iload_n C dX7_joined_121 rfl 2 rfl ?_
    refine cf_iadd C dX7_joined_122 ?_
    exact hR _ _ _ _ dX7_joined_123 hm
  rcases ifc hm with ⟨hx, hm⟩ | ⟨h1_45, hm⟩
  · refine cf_tsIn C 45 dX7_joined_1 (by rw [hx]; rfl) (by decide) (by decide) (off := 123) (by rfl) (tgt := 124) (by decide) ?_
    refine cf_iload_n C dX7_joined_124 rfl 1 rfl ?_
    refine cf_iload_n C dX7_joined_125 rfl 2 rfl ?_
    refine cf_isub C dX7_joined_126 ?_
    exact hR _ _ _ _ dX7_joined_127 hm
  rcases ifc hm with ⟨hx, hm⟩ | ⟨h1_47, hm⟩
  · refine cf_tsIn C 47 dX7_joined_1 (by rw [hx]; rfl) (by decide) (by decide) (off := 131) (by rfl) (tgt := 132) (by decide) ?_
    refine cf_iload_n C dX7_joined_132 rfl 2 rfl ?_
    refine cf_if_ne C (tgt := 140) dX7_joined_133 (by decide) hm (fun hm => ?_) (fun hm => ?_)
    · refine cf_iload_n C dX7_joined_140 rfl 2 rfl ?_
      refine cf_iconst C dX7_joined_141 (v := (-1)) rfl ?_
      refine cf_icmp_ne C (tgt := 150) dX7_joined_142 (by decide) hm (fun hm => ?_) (fun hm => ?_)
      · refine cf_iload_n C dX7_joined_150 rfl 1 rfl ?_
        refine cf_iload_n C dX7_joined_151 rfl 2 rfl ?_
        refine cf_idiv C dX7_joined_152 hm (fun hm => ?_)
        exact hR _ _ _ _ dX7_joined_153 hm
      · refine cf_iload_n C dX7_joined_145 rfl 1 rfl ?_
        refine cf_ineg C dX7_joined_146 ?_
        refine cf_goto C (tgt := 153) dX7_joined_147 (by decide) ?_
        exact hR _ _ _ _ dX7_joined_153 hm
    · refine cf_iconst C dX7_joined_136 (v := 0) rfl ?_
      refine cf_goto C (tgt := 153) dX7_joined_137 (by decide) ?_
      exact hR _ _ _ _ dX7_joined_153 hm
  rcases ifc hm with ⟨hx, hm⟩ | ⟨h1_60, hm⟩
  · refine cf_tsIn C 60 dX7_joined_1 (by rw [hx]; rfl) (by decide) (by decide) (off := 170) (by rfl) (tgt := 171) (by decide) ?_
    refine cf_iload_n C dX7_joined_171 rfl 1 rfl ?_
    refine cf_iload_n C dX7_joined_172 rfl 2 rfl ?_
    refine cf_icmp_ge C (tgt := 180) dX7_joined_173 (by decide) hm (fun hm => ?_) (fun hm => ?_)
    · refine cf_iconst C dX7_joined_180 (v := 0) rfl ?_
      exact hR _ _ _ _ dX7_joined_181 hm
    · refine cf_iconst C dX7_joined_176 (v := 1) rfl ?_
      refine cf_goto C (tgt := 181) dX7_joined_177 (by decide) ?_
      exact hR _ _ _ _ dX7_joined_181 hm
  rcases ifc hm with ⟨hx, hm⟩ | ⟨h1_61, hm⟩
  · refine cf_tsIn C 61 dX7_joined_1 (by rw [hx]; rfl) (by decide) (by decide) (off := 192) (by rfl) (tgt := 193) (by decide) ?_
    refine cf_iload_n C dX7_joined_193 rfl 1 rfl ?_
    refine cf_iload_n C dX7_joined_194 rfl 2 rfl ?_
    refine cf_icmp_ne C (tgt := 202) dX7_joined_195 (by decide) hm (fun hm => ?_) (fun hm => ?_)
    · refine cf_iconst C dX7_joined_202 (v := 0) rfl ?_
      exact hR _ _ _ _ dX7_joined_203 hm
    · refine cf_iconst C dX7_joined_198 (v := 1) rfl ?_
      refine cf_goto C (tgt := 203) dX7_joined_199 (by decide) ?_
      exact hR _ _ _ _ dX7_joined_203 hm
  rcases ifc hm with ⟨hx, hm⟩ | ⟨h1_62, hm⟩
  · refine cf_tsIn C 62 dX7_joined_1 (by rw [hx]; rfl) (by decide) (by decide) (off := 181) (by rfl) (tgt := 182) (by decide) ?_
    refine cf_iload_n C dX7_joined_182 rfl 1 rfl ?_
    refine cf_iload_n C dX7_joined_183 rfl 2 rfl ?_
    refine cf_icmp_le C (tgt := 191) dX7_joined_184 (by decide) hm (fun hm => ?_) (fun hm => ?_)
    · refine cf_iconst C dX7_joined_191 (v := 0) rfl ?_
      exact hR _ _ _ _ dX7_joined_192 hm
    · refine cf_iconst C dX7_joined_187 (v := 1) rfl ?_
      refine cf_goto C (tgt := 192) dX7_joined_188 (by decide) ?_
      exact hR _ _ _ _ dX7_joined_192 hm
  refine cf_tsD C 26 [37, 38, 42, 43, 45, 47, 60, 61, 62] dX7_joined_1 (by decide) (by decide +kernel) (List.forall_mem_cons.mpr ⟨lv_neT h1_37 rfl, (List.forall_mem_cons.mpr ⟨lv_neT h1_38 rfl, (List.forall_mem_cons.mpr ⟨lv_neT h1_42 rfl, (List.forall_mem_cons.mpr ⟨lv_neT h1_43 rfl, (List.forall_mem_cons.mpr ⟨lv_neT h1_45 rfl, (List.forall_mem_cons.mpr ⟨lv_neT h1_47 rfl, (List.forall_mem_cons.mpr ⟨lv_neT h1_60 rfl, (List.forall_mem_cons.mpr ⟨lv_neT h1_61 rfl, (List.forall_mem_cons.mpr ⟨lv_neT h1_62 rfl, (fun _ h => absurd h List.not_mem_nil)⟩)⟩)⟩)⟩)⟩)⟩)⟩)⟩)⟩) (tgt := 218) (by decide) ?_
  refine cf_iload_n C dX7_joined_218 rfl 1 rfl ?_
  refine cf_if_ne C (tgt := 226) dX7_joined_219 (by decide) hm (fun hm => ?_) (fun hm => ?_)
  · refine cf_iconst C dX7_joined_226 (v := 1) rfl ?_
    refine cf_goto C (tgt := 231) dX7_joined_227 (by decide) ?_
    exact hR _ _ _ _ dX7_joined_231 hm
  · refine cf_iload_n C dX7_joined_222 rfl 2 rfl ?_
    refine cf_if_eq C (tgt := 230) dX7_joined_223 (by decide) hm (fun hm => ?_) (fun hm => ?_)
    · refine cf_iconst C dX7_joined_230 (v := 0) rfl ?_
      exact hR _ _ _ _ dX7_joined_231 hm
    · refine cf_iconst C dX7_joined_226 (v := 1) rfl ?_
      refine cf_goto C (tgt := 231) dX7_joined_227 (by decide) ?_
      exact hR _ _ _ _ dX7_joined_231 hm

def J_X7_worked_65   (K13 : Int32 → Int32 → Int32 → St → Prop) (Q : Int32 → St → Prop) (x2 : Int32) (x3 : Int32) (x4 : Int32) (x5 : Int32) (x6 : Int32) (S : St) : Prop := if x5 = 0 then (vp_in x3 64 ∧ (nmS (stR S 17 11 (upd (S.2 17 11) x3.toNatClampNeg x6)) (fun S7 => nmI (x3 + 1) (fun v8 => nmI (x4 + 1) (fun v9 => K13 x2 v8 v9 S7))))) else (vp_in x6 128 ∧ (vp_in x3 64 ∧ (nmS (stR S 17 11 (upd (S.2 17 11) x3.toNatClampNeg (S.2 17 10 x6.toNatClampNeg))) (fun S4 => nmI (x3 + 1) (fun v5 => nmI (x4 + 1) (fun v6 => K13 x2 v5 v6 S4))))))
set_option maxRecDepth 20000 in
theorem w_J_X7_worked_65 {E : EV} {Q : Int32 → St → Prop}   (C : CX E cX7_worked RX7 7 enM 1 22)   (hR : RTi E cX7_worked Q) {K13 : Int32 → Int32 → Int32 → St → Prop} (hK13 : ∀ (x2 : Int32) (x3 : Int32) (x4 : Int32) (S : St), K13 x2 x3 x4 S → CF E S 13 [(0, .ref (adr (vG E) 17 0)), (2, .int x2), (3, .int x3), (4, .int x4)] []) : ∀ (x2 : Int32) (x3 : Int32) (x4 : Int32) (x5 : Int32) (x6 : Int32) (S : St), J_X7_worked_65 K13 Q x2 x3 x4 x5 x6 S → CF E S 65 [(0, .ref (adr (vG E) 17 0)), (2, .int x2), (3, .int x3), (4, .int x4), (5, .int x5), (6, .int x6)] [] := by
  intro x2 x3 x4 x5 x6 S hm
  unfold J_X7_worked_65 at hm
  refine cf_aload_n C dX7_worked_65 rfl 0 rfl ?_
  refine gf_7_11 C inX7 okM_17 q705 dX7_worked_66 ?_
  refine cf_iload_n C dX7_worked_69 rfl 2 rfl ?_
  refine cf_iload C dX7_worked_70 4 rfl ?_
  refine cf_if_ne C (tgt := 80) dX7_worked_72 (by decide) hm (fun hm => ?_) (fun hm => ?_)
  · refine cf_aload_n C dX7_worked_80 rfl 0 rfl ?_
    refine gf_7_10 C inX7 okM_17 q704 dX7_worked_81 ?_
    refine cf_iload C dX7_worked_84 5 rfl ?_
    refine cf_iald C (okA_of 10 okM_17 rfl (by decide) (by decide) (by decide)) dX7_worked_86 hm (fun hm => ?_)
    refine cf_iast C (okA_of 11 okM_17 rfl (by decide) (by decide) (by decide)) dX7_worked_87 hm (fun hm => ?_)
    refine cf_nmS hm (fun S4 hm => ?_)
    refine cf_iincN C (L1 := fun v5 => [(3, .int v5), (0, .ref (adr (vG E) 17 0)), (2, .int x2), (4, .int x4), (5, .int x5), (6, .int x6)]) dX7_worked_88 2 rfl rfl (by decide) (fun _ => rfl) hm (fun v5 hm => ?_)
    refine cf_goto C (tgt := 157) dX7_worked_91 (by decide) ?_
    refine cf_iincN C (L1 := fun v6 => [(4, .int v6), (3, .int v5), (0, .ref (adr (vG E) 17 0)), (2, .int x2), (5, .int x5), (6, .int x6)]) dX7_worked_157 3 rfl rfl (by decide) (fun _ => rfl) hm (fun v6 hm => ?_)
    refine cf_goto C (tgt := 13) dX7_worked_160 (by decide) ?_
    refine cf_sub C [2, 3, 1, 0] rfl ?_
    exact hK13 x2 v5 v6 _ hm
  · refine cf_iload C dX7_worked_75 5 rfl ?_
    refine cf_goto C (tgt := 87) dX7_worked_77 (by decide) ?_
    refine cf_iast C (okA_of 11 okM_17 rfl (by decide) (by decide) (by decide)) dX7_worked_87 hm (fun hm => ?_)
    refine cf_nmS hm (fun S7 hm => ?_)
    refine cf_iincN C (L1 := fun v8 => [(3, .int v8), (0, .ref (adr (vG E) 17 0)), (2, .int x2), (4, .int x4), (5, .int x5), (6, .int x6)]) dX7_worked_88 2 rfl rfl (by decide) (fun _ => rfl) hm (fun v8 hm => ?_)
    refine cf_goto C (tgt := 157) dX7_worked_91 (by decide) ?_
    refine cf_iincN C (L1 := fun v9 => [(4, .int v9), (3, .int v8), (0, .ref (adr (vG E) 17 0)), (2, .int x2), (5, .int x5), (6, .int x6)]) dX7_worked_157 3 rfl rfl (by decide) (fun _ => rfl) hm (fun v9 hm => ?_)
    refine cf_goto C (tgt := 13) dX7_worked_160 (by decide) ?_
    refine cf_sub C [2, 3, 1, 0] rfl ?_
    exact hK13 x2 v8 v9 _ hm
def L_X7_worked_13    (Q : Int32 → St → Prop) : Nat → Int32 → Int32 → Int32 → St → Prop
  | 0 => fun _ _ _ _ => False
  | n + 1 => fun x2 x3 x4 S => vp_in x2 387 ∧ (if (S.2 17 0 x2.toNatClampNeg) ≤ x4 then (vp_in 0 64 ∧ (Q (S.2 17 11 (0 : Int32).toNatClampNeg) S)) else (vp_in ((x2 + 1) + (2 * x4)) 387 ∧ (nmI (S.2 17 0 ((x2 + 1) + (2 * x4)).toNatClampNeg) (fun v2 => vp_in ((x2 + 2) + (2 * x4)) 387 ∧ (nmI (S.2 17 0 ((x2 + 2) + (2 * x4)).toNatClampNeg) (fun v3 => if v2 = 0 then (J_X7_worked_65 (L_X7_worked_13 Q n) Q x2 x3 x4 v2 v3 S) else (if v2 = 1 then (J_X7_worked_65 (L_X7_worked_13 Q n) Q x2 x3 x4 v2 v3 S) else (if v2 = 2 then (vp_in (x3 - 1) 64 ∧ (if (S.2 17 11 (x3 - 1).toNatClampNeg) = 0 then (vp_in (x3 - 1) 64 ∧ (nmS (stR S 17 11 (upd (S.2 17 11) (x3 - 1).toNatClampNeg 1)) (fun S17 => nmI (x4 + 1) (fun v18 => L_X7_worked_13 Q n x2 x3 v18 S17)))) else (vp_in (x3 - 1) 64 ∧ (nmS (stR S 17 11 (upd (S.2 17 11) (x3 - 1).toNatClampNeg 0)) (fun S15 => nmI (x4 + 1) (fun v16 => L_X7_worked_13 Q n x2 x3 v16 S15)))))) else (nmI (x3 + (-1)) (fun v10 => vp_in (v10 - 1) 64 ∧ (vp_in v10 64 ∧ (E_X7_joined v3 (S.2 17 11 (v10 - 1).toNatClampNeg) (S.2 17 11 v10.toNatClampNeg) S (fun v12 S11 => vp_in (v10 - 1) 64 ∧ (nmS (stR S11 17 11 (upd (S11.2 17 11) (v10 - 1).toNatClampNeg v12)) (fun S13 => nmI (x4 + 1) (fun v14 => L_X7_worked_13 Q n x2 v10 v14 S13))))))))))))))))
set_option maxRecDepth 20000 in
theorem w_L_X7_worked_13 {E : EV} {Q : Int32 → St → Prop}   (C : CX E cX7_worked RX7 7 enM 1 22)   (hR : RTi E cX7_worked Q) : ∀ (n : Nat) (x2 : Int32) (x3 : Int32) (x4 : Int32) (S : St), L_X7_worked_13 Q n x2 x3 x4 S → CF E S 13 [(0, .ref (adr (vG E) 17 0)), (2, .int x2), (3, .int x3), (4, .int x4)] [] := by
  intro n
  induction n with
  | zero =>
    intro x2 x3 x4 S hm
    exact hm.elim
  | succ n ih =>
    intro x2 x3 x4 S hm
    unfold L_X7_worked_13 at hm
    refine cf_iload C dX7_worked_13 3 rfl ?_
    refine cf_aload_n C dX7_worked_15 rfl 0 rfl ?_
    refine gf_7_0 C inX7 okM_17 q694 dX7_worked_16 ?_
    refine cf_iload_n C dX7_worked_19 rfl 1 rfl ?_
    refine cf_iald C (okA_of 0 okM_17 rfl (by decide) (by decide) (by decide)) dX7_worked_20 hm (fun hm => ?_)
    refine cf_icmp_ge C (tgt := 163) dX7_worked_21 (by decide) hm (fun hm => ?_) (fun hm => ?_)
    · refine cf_aload_n C dX7_worked_163 rfl 0 rfl ?_
      refine gf_7_11 C inX7 okM_17 q705 dX7_worked_164 ?_
      refine cf_iconst C dX7_worked_167 (v := 0) rfl ?_
      refine cf_iald C (okA_of 11 okM_17 rfl (by decide) (by decide) (by decide)) dX7_worked_168 hm (fun hm => ?_)
      exact hR _ _ _ _ dX7_worked_169 hm
    · refine cf_aload_n C dX7_worked_24 rfl 0 rfl ?_
      refine gf_7_0 C inX7 okM_17 q694 dX7_worked_25 ?_
      refine cf_iload_n C dX7_worked_28 rfl 1 rfl ?_
      refine cf_iconst C dX7_worked_29 (v := 1) rfl ?_
      refine cf_iadd C dX7_worked_30 ?_
      refine cf_iconst C dX7_worked_31 (v := 2) rfl ?_
      refine cf_iload C dX7_worked_32 3 rfl ?_
      refine cf_imul C dX7_worked_34 ?_
      refine cf_iadd C dX7_worked_35 ?_
      refine cf_iald C (okA_of 0 okM_17 rfl (by decide) (by decide) (by decide)) dX7_worked_36 hm (fun hm => ?_)
      refine cf_nmI hm (fun v2 hm => ?_)
      refine cf_istore C (L1 := [(5, .int v2), (0, .ref (adr (vG E) 17 0)), (2, .int x2), (3, .int x3), (4, .int x4)]) dX7_worked_37 (by decide) rfl ?_
      refine cf_aload_n C dX7_worked_39 rfl 1 rfl ?_
      refine gf_7_0 C inX7 okM_17 q694 dX7_worked_40 ?_
      refine cf_iload_n C dX7_worked_43 rfl 2 rfl ?_
      refine cf_iconst C dX7_worked_44 (v := 2) rfl ?_
      refine cf_iadd C dX7_worked_45 ?_
      refine cf_iconst C dX7_worked_46 (v := 2) rfl ?_
      refine cf_iload C dX7_worked_47 4 rfl ?_
      refine cf_imul C dX7_worked_49 ?_
      refine cf_iadd C dX7_worked_50 ?_
      refine cf_iald C (okA_of 0 okM_17 rfl (by decide) (by decide) (by decide)) dX7_worked_51 hm (fun hm => ?_)
      refine cf_nmI hm (fun v3 hm => ?_)
      refine cf_istore C (L1 := [(6, .int v3), (5, .int v2), (0, .ref (adr (vG E) 17 0)), (2, .int x2), (3, .int x3), (4, .int x4)]) dX7_worked_52 (by decide) rfl ?_
      refine cf_iload C dX7_worked_54 1 rfl ?_
      refine cf_if_eq C (tgt := 65) dX7_worked_56 (by decide) hm (fun hm => ?_) (fun hm => ?_)
      · refine cf_sub C [2, 3, 4, 5, 1, 0] rfl ?_
        exact w_J_X7_worked_65 C hR ih x2 x3 x4 v2 v3 _ hm
      · refine cf_iload C dX7_worked_59 1 rfl ?_
        refine cf_iconst C dX7_worked_61 (v := 1) rfl ?_
        refine cf_icmp_ne C (tgt := 94) dX7_worked_62 (by decide) hm (fun hm => ?_) (fun hm => ?_)
        · refine cf_iload C dX7_worked_94 1 rfl ?_
          refine cf_iconst C dX7_worked_96 (v := 2) rfl ?_
          refine cf_icmp_ne C (tgt := 127) dX7_worked_97 (by decide) hm (fun hm => ?_) (fun hm => ?_)
          · refine cf_iincN C (L1 := fun v10 => [(3, .int v10), (6, .int v3), (5, .int v2), (0, .ref (adr (vG E) 17 0)), (2, .int x2), (4, .int x4)]) dX7_worked_127 4 rfl rfl (by decide) (fun _ => rfl) hm (fun v10 hm => ?_)
            refine cf_aload_n C dX7_worked_130 rfl 3 rfl ?_
            refine gf_7_11 C inX7 okM_17 q705 dX7_worked_131 ?_
            refine cf_iload_n C dX7_worked_134 rfl 0 rfl ?_
            refine cf_iconst C dX7_worked_135 (v := 1) rfl ?_
            refine cf_isub C dX7_worked_136 ?_
            refine cf_iload C dX7_worked_137 1 rfl ?_
            refine cf_aload_n C dX7_worked_139 rfl 3 rfl ?_
            refine gf_7_11 C inX7 okM_17 q705 dX7_worked_140 ?_
            refine cf_iload_n C dX7_worked_143 rfl 0 rfl ?_
            refine cf_iconst C dX7_worked_144 (v := 1) rfl ?_
            refine cf_isub C dX7_worked_145 ?_
            refine cf_iald C (okA_of 11 okM_17 rfl (by decide) (by decide) (by decide)) dX7_worked_146 hm (fun hm => ?_)
            refine cf_aload_n C dX7_worked_147 rfl 3 rfl ?_
            refine gf_7_11 C inX7 okM_17 q705 dX7_worked_148 ?_
            refine cf_iload_n C dX7_worked_151 rfl 0 rfl ?_
            refine cf_iald C (okA_of 11 okM_17 rfl (by decide) (by decide) (by decide)) dX7_worked_152 hm (fun hm => ?_)
            refine cf_callSi C [.int v3, .int (S.2 17 11 (v10 - 1).toNatClampNeg), .int (S.2 17 11 v10.toNatClampNeg)] [.int (v10 - 1), .ref (adr (vG E) 17 12)] q871 (c_X7_joined (vL E) (vG E) v3 (S.2 17 11 (v10 - 1).toNatClampNeg) (S.2 17 11 v10.toNatClampNeg) _ _  hm) q870 q872 q72 md_X7_joined (Nat.le_of_ble_eq_true rfl) (Nat.le_of_ble_eq_true rfl) rfl rfl (Nat.le_of_ble_eq_true rfl) dX7_worked_153 (fun v12 S11 hm => ?_)
            refine cf_iast C (okA_of 11 okM_17 rfl (by decide) (by decide) (by decide)) dX7_worked_156 hm (fun hm => ?_)
            refine cf_nmS hm (fun S13 hm => ?_)
            refine cf_iincN C (L1 := fun v14 => [(4, .int v14), (3, .int v10), (6, .int v3), (5, .int v2), (0, .ref (adr (vG E) 17 0)), (2, .int x2)]) dX7_worked_157 5 rfl rfl (by decide) (fun _ => rfl) hm (fun v14 hm => ?_)
            refine cf_goto C (tgt := 13) dX7_worked_160 (by decide) ?_
            refine cf_sub C [4, 5, 1, 0] rfl ?_
            exact ih x2 v10 v14 _ hm
          · refine cf_aload_n C dX7_worked_100 rfl 2 rfl ?_
            refine gf_7_11 C inX7 okM_17 q705 dX7_worked_101 ?_
            refine cf_iload_n C dX7_worked_104 rfl 4 rfl ?_
            refine cf_iconst C dX7_worked_105 (v := 1) rfl ?_
            refine cf_isub C dX7_worked_106 ?_
            refine cf_aload_n C dX7_worked_107 rfl 2 rfl ?_
            refine gf_7_11 C inX7 okM_17 q705 dX7_worked_108 ?_
            refine cf_iload_n C dX7_worked_111 rfl 4 rfl ?_
            refine cf_iconst C dX7_worked_112 (v := 1) rfl ?_
            refine cf_isub C dX7_worked_113 ?_
            refine cf_iald C (okA_of 11 okM_17 rfl (by decide) (by decide) (by decide)) dX7_worked_114 hm (fun hm => ?_)
            refine cf_if_ne C (tgt := 122) dX7_worked_115 (by decide) hm (fun hm => ?_) (fun hm => ?_)
            · refine cf_iconst C dX7_worked_122 (v := 0) rfl ?_
              refine cf_iast C (okA_of 11 okM_17 rfl (by decide) (by decide) (by decide)) dX7_worked_123 hm (fun hm => ?_)
              refine cf_nmS hm (fun S15 hm => ?_)
              refine cf_goto C (tgt := 157) dX7_worked_124 (by decide) ?_
              refine cf_iincN C (L1 := fun v16 => [(4, .int v16), (6, .int v3), (5, .int v2), (0, .ref (adr (vG E) 17 0)), (2, .int x2), (3, .int x3)]) dX7_worked_157 5 rfl rfl (by decide) (fun _ => rfl) hm (fun v16 hm => ?_)
              refine cf_goto C (tgt := 13) dX7_worked_160 (by decide) ?_
              refine cf_sub C [3, 4, 5, 0] rfl ?_
              exact ih x2 x3 v16 _ hm
            · refine cf_iconst C dX7_worked_118 (v := 1) rfl ?_
              refine cf_goto C (tgt := 123) dX7_worked_119 (by decide) ?_
              refine cf_iast C (okA_of 11 okM_17 rfl (by decide) (by decide) (by decide)) dX7_worked_123 hm (fun hm => ?_)
              refine cf_nmS hm (fun S17 hm => ?_)
              refine cf_goto C (tgt := 157) dX7_worked_124 (by decide) ?_
              refine cf_iincN C (L1 := fun v18 => [(4, .int v18), (6, .int v3), (5, .int v2), (0, .ref (adr (vG E) 17 0)), (2, .int x2), (3, .int x3)]) dX7_worked_157 5 rfl rfl (by decide) (fun _ => rfl) hm (fun v18 hm => ?_)
              refine cf_goto C (tgt := 13) dX7_worked_160 (by decide) ?_
              refine cf_sub C [3, 4, 5, 0] rfl ?_
              exact ih x2 x3 v18 _ hm
        · refine cf_sub C [2, 3, 4, 5, 1, 0] rfl ?_
          exact w_J_X7_worked_65 C hR ih x2 x3 x4 v2 v3 _ hm
def E_X7_worked (x1 : Int32) (S : St) (Q : Int32 → St → Prop) : Prop := nmI (53 + (125 * x1)) (fun v1 => ∃ k, L_X7_worked_13 Q k v1 0 0 S)
set_option maxRecDepth 20000 in
theorem c_X7_worked (l : Launch) (G : GX) (x1 : Int32) (S : St) (Q : Int32 → St → Prop)  (hm : E_X7_worked x1 S Q) : CTi l yX7_worked (Cond.code yX7_worked cX7_worked 7 (some .int) :: AW) { frames := 1, cells := 0, slots := 0, locals := 22 } G enM [.ref (adr G 17 0), .int x1] S Q := by
  refine ct_start_i (by decide) enM_nd (Nat.le_of_ble_eq_true rfl) (fun E hG hl C hR => ?_)
  subst hG
  subst hl
  show CF E S 0 [(0, .ref (adr (vG E) 17 0)), (1, .int x1)] []
  unfold E_X7_worked at hm
  refine cf_bipush C dX7_worked_0 (v := 53) rfl ?_
  refine cf_bipush C dX7_worked_2 (v := 125) rfl ?_
  refine cf_iload_n C dX7_worked_4 rfl 1 rfl ?_
  refine cf_imul C dX7_worked_5 ?_
  refine cf_iadd C dX7_worked_6 ?_
  refine cf_nmI hm (fun v1 hm => ?_)
  refine cf_istore_n C (L1 := [(2, .int v1), (0, .ref (adr (vG E) 17 0)), (1, .int x1)]) dX7_worked_7 rfl (by decide) rfl ?_
  refine cf_iconst C dX7_worked_8 (v := 0) rfl ?_
  refine cf_istore_n C (L1 := [(3, .int 0), (2, .int v1), (0, .ref (adr (vG E) 17 0)), (1, .int x1)]) dX7_worked_9 rfl (by decide) rfl ?_
  refine cf_iconst C dX7_worked_10 (v := 0) rfl ?_
  refine cf_istore C (L1 := [(4, .int 0), (3, .int 0), (2, .int v1), (0, .ref (adr (vG E) 17 0)), (1, .int x1)]) dX7_worked_11 (by decide) rfl ?_
  refine cf_sub C [3, 2, 1, 0] rfl ?_
  obtain ⟨k, hm⟩ := hm
  exact w_L_X7_worked_13 C hR k v1 0 0 _ hm

def E_X7_held (x0 : Int32) (x1 : Int32) (x2 : Int32) (S : St) (Q : Int32 → St → Prop) : Prop := if x1 ≤ x0 then (if x0 ≤ x2 then (Q x0 S) else (Q x2 S)) else (Q x1 S)
set_option maxRecDepth 20000 in
theorem c_X7_held (l : Launch) (G : GX) (x0 : Int32) (x1 : Int32) (x2 : Int32) (S : St) (Q : Int32 → St → Prop)  (hm : E_X7_held x0 x1 x2 S Q) : CTi l yX7_held (Cond.code yX7_held cX7_held 3 (some .int) :: AW) { frames := 0, cells := 0, slots := 0, locals := 0 } G enM [.int x0, .int x1, .int x2] S Q := by
  refine ct_start_i (by decide) enM_nd (Nat.le_of_ble_eq_true rfl) (fun E hG hl C hR => ?_)
  subst hG
  subst hl
  show CF E S 0 [(0, .int x0), (1, .int x1), (2, .int x2)] []
  unfold E_X7_held at hm
  refine cf_iload_n C dX7_held_0 rfl 0 rfl ?_
  refine cf_iload_n C dX7_held_1 rfl 1 rfl ?_
  refine cf_icmp_ge C (tgt := 9) dX7_held_2 (by decide) hm (fun hm => ?_) (fun hm => ?_)
  · refine cf_iload_n C dX7_held_9 rfl 0 rfl ?_
    refine cf_iload_n C dX7_held_10 rfl 2 rfl ?_
    refine cf_icmp_le C (tgt := 18) dX7_held_11 (by decide) hm (fun hm => ?_) (fun hm => ?_)
    · refine cf_iload_n C dX7_held_18 rfl 0 rfl ?_
      exact hR _ _ _ _ dX7_held_19 hm
    · refine cf_iload_n C dX7_held_14 rfl 2 rfl ?_
      refine cf_goto C (tgt := 19) dX7_held_15 (by decide) ?_
      exact hR _ _ _ _ dX7_held_19 hm
  · refine cf_iload_n C dX7_held_5 rfl 1 rfl ?_
    refine cf_goto C (tgt := 19) dX7_held_6 (by decide) ?_
    exact hR _ _ _ _ dX7_held_19 hm

def E_X7_claimTold (x1 : Int32) (x2 : Int32) (x3 : Int32) (S : St) (Q : Int32 → St → Prop) : Prop := vp_in 99 128 ∧ (nmS (stR S 17 10 (upd (S.2 17 10) (99 : Int32).toNatClampNeg x1)) (fun S1 => vp_in 97 128 ∧ (nmS (stR S1 17 10 (upd (S1.2 17 10) (97 : Int32).toNatClampNeg x2)) (fun S2 => vp_in 115 128 ∧ (nmS (stR S2 17 10 (upd (S2.2 17 10) (115 : Int32).toNatClampNeg x3)) (fun S3 => E_X7_hasText 0 S3 (fun v5 S4 => if v5 = 0 then (E_X7_held x1 0 999 S4 (fun v7 S6 => Q v7 S6)) else (E_X7_worked 0 S4 (fun v9 S8 => E_X7_held v9 0 999 S8 (fun v11 S10 => Q v11 S10))))))))))
set_option maxRecDepth 20000 in
theorem c_X7_claimTold (l : Launch) (G : GX) (x1 : Int32) (x2 : Int32) (x3 : Int32) (S : St) (Q : Int32 → St → Prop)  (hm : E_X7_claimTold x1 x2 x3 S Q) : CTi l yX7_claimTold (Cond.code yX7_claimTold cX7_claimTold 4 (some .int) :: AW) { frames := 2, cells := 0, slots := 0, locals := 48 } G enM [.ref (adr G 17 0), .int x1, .int x2, .int x3] S Q := by
  refine ct_start_i (by decide) enM_nd (Nat.le_of_ble_eq_true rfl) (fun E hG hl C hR => ?_)
  subst hG
  subst hl
  show CF E S 0 [(0, .ref (adr (vG E) 17 0)), (1, .int x1), (2, .int x2), (3, .int x3)] []
  unfold E_X7_claimTold at hm
  refine cf_aload_n C dX7_claimTold_0 rfl 0 rfl ?_
  refine gf_7_10 C inX7 okM_17 q704 dX7_claimTold_1 ?_
  refine cf_bipush C dX7_claimTold_4 (v := 99) rfl ?_
  refine cf_iload_n C dX7_claimTold_6 rfl 1 rfl ?_
  refine cf_iast C (okA_of 10 okM_17 rfl (by decide) (by decide) (by decide)) dX7_claimTold_7 hm (fun hm => ?_)
  refine cf_nmS hm (fun S1 hm => ?_)
  refine cf_aload_n C dX7_claimTold_8 rfl 0 rfl ?_
  refine gf_7_10 C inX7 okM_17 q704 dX7_claimTold_9 ?_
  refine cf_bipush C dX7_claimTold_12 (v := 97) rfl ?_
  refine cf_iload_n C dX7_claimTold_14 rfl 2 rfl ?_
  refine cf_iast C (okA_of 10 okM_17 rfl (by decide) (by decide) (by decide)) dX7_claimTold_15 hm (fun hm => ?_)
  refine cf_nmS hm (fun S2 hm => ?_)
  refine cf_aload_n C dX7_claimTold_16 rfl 0 rfl ?_
  refine gf_7_10 C inX7 okM_17 q704 dX7_claimTold_17 ?_
  refine cf_bipush C dX7_claimTold_20 (v := 115) rfl ?_
  refine cf_iload_n C dX7_claimTold_22 rfl 3 rfl ?_
  refine cf_iast C (okA_of 10 okM_17 rfl (by decide) (by decide) (by decide)) dX7_claimTold_23 hm (fun hm => ?_)
  refine cf_nmS hm (fun S3 hm => ?_)
  refine cf_aload_n C dX7_claimTold_24 rfl 0 rfl ?_
  refine cf_iconst C dX7_claimTold_25 (v := 0) rfl ?_
  refine cf_callVi C [.int 0] [] okM_17.1 (ocell_7 okM_17.2.1) rfl q825 q30 (c_X7_hasText (vL E) (vG E) 0 _ _  hm) q823 q826 q72 md_X7_hasText (Nat.le_of_ble_eq_true rfl) (Nat.le_of_ble_eq_true rfl) rfl rfl (Nat.le_of_ble_eq_true rfl) dX7_claimTold_26 (fun v5 S4 hm => ?_)
  refine cf_if_eq C (tgt := 40) dX7_claimTold_29 (by decide) hm (fun hm => ?_) (fun hm => ?_)
  · refine cf_iload_n C dX7_claimTold_40 rfl 1 rfl ?_
    refine cf_iconst C dX7_claimTold_41 (v := 0) rfl ?_
    refine cf_sipush C dX7_claimTold_42 (v := 999) rfl ?_
    refine cf_callSi C [.int x1, .int 0, .int 999] [] q874 (c_X7_held (vL E) (vG E) x1 0 999 _ _  hm) q873 q875 q72 md_X7_held (Nat.le_of_ble_eq_true rfl) (Nat.le_of_ble_eq_true rfl) rfl rfl (Nat.le_of_ble_eq_true rfl) dX7_claimTold_45 (fun v7 S6 hm => ?_)
    exact hR _ _ _ _ dX7_claimTold_48 hm
  · refine cf_aload_n C dX7_claimTold_32 rfl 0 rfl ?_
    refine cf_iconst C dX7_claimTold_33 (v := 0) rfl ?_
    refine cf_callVi C [.int 0] [] okM_17.1 (ocell_7 okM_17.2.1) rfl q868 q38 (c_X7_worked (vL E) (vG E) 0 _ _  hm) q866 q869 q72 md_X7_worked (Nat.le_of_ble_eq_true rfl) (Nat.le_of_ble_eq_true rfl) rfl rfl (Nat.le_of_ble_eq_true rfl) dX7_claimTold_34 (fun v9 S8 hm => ?_)
    refine cf_goto C (tgt := 41) dX7_claimTold_37 (by decide) ?_
    refine cf_iconst C dX7_claimTold_41 (v := 0) rfl ?_
    refine cf_sipush C dX7_claimTold_42 (v := 999) rfl ?_
    refine cf_callSi C [.int v9, .int 0, .int 999] [] q874 (c_X7_held (vL E) (vG E) v9 0 999 _ _  hm) q873 q875 q72 md_X7_held (Nat.le_of_ble_eq_true rfl) (Nat.le_of_ble_eq_true rfl) rfl rfl (Nat.le_of_ble_eq_true rfl) dX7_claimTold_45 (fun v11 S10 hm => ?_)
    exact hR _ _ _ _ dX7_claimTold_48 hm

def E_X7_claimOf (x1 : Int32) (S : St) (Q : Int32 → St → Prop) : Prop := E_X7_claimsOf x1 S (fun v2 S1 => E_X7_its x1 3 S1 (fun v4 S3 => E_X7_its x1 2 S3 (fun v6 S5 => E_X7_claimTold v2 v4 v6 S5 (fun v8 S7 => Q v8 S7))))
set_option maxRecDepth 20000 in
theorem c_X7_claimOf (l : Launch) (G : GX) (x1 : Int32) (S : St) (Q : Int32 → St → Prop)  (hm : E_X7_claimOf x1 S Q) : CTi l yX7_claimOf (Cond.code yX7_claimOf cX7_claimOf 2 (some .int) :: AW) { frames := 3, cells := 0, slots := 0, locals := 71 } G enM [.ref (adr G 17 0), .int x1] S Q := by
  refine ct_start_i (by decide) enM_nd (Nat.le_of_ble_eq_true rfl) (fun E hG hl C hR => ?_)
  subst hG
  subst hl
  show CF E S 0 [(0, .ref (adr (vG E) 17 0)), (1, .int x1)] []
  unfold E_X7_claimOf at hm
  refine cf_aload_n C dX7_claimOf_0 rfl 0 rfl ?_
  refine cf_aload_n C dX7_claimOf_1 rfl 0 rfl ?_
  refine cf_iload_n C dX7_claimOf_2 rfl 1 rfl ?_
  refine cf_callVi C [.int x1] [.ref (adr (vG E) 17 0)] okM_17.1 (ocell_7 okM_17.2.1) rfl q856 q35 (c_X7_claimsOf (vL E) (vG E) x1 _ _  hm) q854 q857 q72 md_X7_claimsOf (Nat.le_of_ble_eq_true rfl) (Nat.le_of_ble_eq_true rfl) rfl rfl (Nat.le_of_ble_eq_true rfl) dX7_claimOf_3 (fun v2 S1 hm => ?_)
  refine cf_aload_n C dX7_claimOf_6 rfl 0 rfl ?_
  refine cf_iload_n C dX7_claimOf_7 rfl 1 rfl ?_
  refine cf_iconst C dX7_claimOf_8 (v := 3) rfl ?_
  refine cf_callVi C [.int x1, .int 3] [.int v2, .ref (adr (vG E) 17 0)] okM_17.1 (ocell_7 okM_17.2.1) rfl q860 q36 (c_X7_its (vL E) (vG E) x1 3 _ _  hm) q858 q861 q72 md_X7_its (Nat.le_of_ble_eq_true rfl) (Nat.le_of_ble_eq_true rfl) rfl rfl (Nat.le_of_ble_eq_true rfl) dX7_claimOf_9 (fun v4 S3 hm => ?_)
  refine cf_aload_n C dX7_claimOf_12 rfl 0 rfl ?_
  refine cf_iload_n C dX7_claimOf_13 rfl 1 rfl ?_
  refine cf_iconst C dX7_claimOf_14 (v := 2) rfl ?_
  refine cf_callVi C [.int x1, .int 2] [.int v4, .int v2, .ref (adr (vG E) 17 0)] okM_17.1 (ocell_7 okM_17.2.1) rfl q860 q36 (c_X7_its (vL E) (vG E) x1 2 _ _  hm) q858 q861 q72 md_X7_its (Nat.le_of_ble_eq_true rfl) (Nat.le_of_ble_eq_true rfl) rfl rfl (Nat.le_of_ble_eq_true rfl) dX7_claimOf_15 (fun v6 S5 hm => ?_)
  refine cf_callVi C [.int v2, .int v4, .int v6] [] okM_17.1 (ocell_7 okM_17.2.1) rfl q864 q37 (c_X7_claimTold (vL E) (vG E) v2 v4 v6 _ _  hm) q862 q865 q72 md_X7_claimTold (Nat.le_of_ble_eq_true rfl) (Nat.le_of_ble_eq_true rfl) rfl rfl (Nat.le_of_ble_eq_true rfl) dX7_claimOf_18 (fun v8 S7 hm => ?_)
  exact hR _ _ _ _ dX7_claimOf_21 hm

def E_X7_spoilsOf (x1 : Int32) (S : St) (Q : Int32 → St → Prop) : Prop := E_X7_its x1 3 S (fun v2 S1 => nmI (v2 / 5) (fun v3 => E_X7_its x1 1 S1 (fun v5 S4 => E_X7_its x1 0 S4 (fun v7 S6 => if v7 = 2 then (Q (v3 + 1) S6) else (if v7 = 3 then (Q 0 S6) else (if v7 = 4 then (if v3 ≤ 0 then (Q 0 S6) else (Q (v3 - 1) S6)) else (if v7 = 5 then (if v5 ≤ 4 then (Q (v3 + 1) S6) else (Q 0 S6)) else (if v7 = 6 then (Q ((v3 * v5) / 4) S6) else (Q v3 S6)))))))))
set_option maxRecDepth 20000 in
theorem c_X7_spoilsOf (l : Launch) (G : GX) (x1 : Int32) (S : St) (Q : Int32 → St → Prop)  (hm : E_X7_spoilsOf x1 S Q) : CTi l yX7_spoilsOf (Cond.code yX7_spoilsOf cX7_spoilsOf 4 (some .int) :: AW) { frames := 1, cells := 0, slots := 0, locals := 22 } G enM [.ref (adr G 17 0), .int x1] S Q := by
  refine ct_start_i (by decide) enM_nd (Nat.le_of_ble_eq_true rfl) (fun E hG hl C hR => ?_)
  subst hG
  subst hl
  show CF E S 0 [(0, .ref (adr (vG E) 17 0)), (1, .int x1)] []
  unfold E_X7_spoilsOf at hm
  refine cf_aload_n C dX7_spoilsOf_0 rfl 0 rfl ?_
  refine cf_iload_n C dX7_spoilsOf_1 rfl 1 rfl ?_
  refine cf_iconst C dX7_spoilsOf_2 (v := 3) rfl ?_
  refine cf_callVi C [.int x1, .int 3] [] okM_17.1 (ocell_7 okM_17.2.1) rfl q860 q36 (c_X7_its (vL E) (vG E) x1 3 _ _  hm) q858 q861 q72 md_X7_its (Nat.le_of_ble_eq_true rfl) (Nat.le_of_ble_eq_true rfl) rfl rfl (Nat.le_of_ble_eq_true rfl) dX7_spoilsOf_3 (fun v2 S1 hm => ?_)
  refine cf_iconst C dX7_spoilsOf_6 (v := 5) rfl ?_
  refine cf_idivC C dX7_spoilsOf_7 (by decide) ?_
  refine cf_nmI hm (fun v3 hm => ?_)
  refine cf_istore_n C (L1 := [(2, .int v3), (0, .ref (adr (vG E) 17 0)), (1, .int x1)]) dX7_spoilsOf_8 rfl (by decide) rfl ?_
  refine cf_aload_n C dX7_spoilsOf_9 rfl 1 rfl ?_
  refine cf_iload_n C dX7_spoilsOf_10 rfl 2 rfl ?_
  refine cf_iconst C dX7_spoilsOf_11 (v := 1) rfl ?_
  refine cf_callVi C [.int x1, .int 1] [] okM_17.1 (ocell_7 okM_17.2.1) rfl q860 q36 (c_X7_its (vL E) (vG E) x1 1 _ _  hm) q858 q861 q72 md_X7_its (Nat.le_of_ble_eq_true rfl) (Nat.le_of_ble_eq_true rfl) rfl rfl (Nat.le_of_ble_eq_true rfl) dX7_spoilsOf_12 (fun v5 S4 hm => ?_)
  refine cf_istore_n C (L1 := [(3, .int v5), (2, .int v3), (0, .ref (adr (vG E) 17 0)), (1, .int x1)]) dX7_spoilsOf_15 rfl (by decide) rfl ?_
  refine cf_aload_n C dX7_spoilsOf_16 rfl 2 rfl ?_
  refine cf_iload_n C dX7_spoilsOf_17 rfl 3 rfl ?_
  refine cf_iconst C dX7_spoilsOf_18 (v := 0) rfl ?_
  refine cf_callVi C [.int x1, .int 0] [] okM_17.1 (ocell_7 okM_17.2.1) rfl q860 q36 (c_X7_its (vL E) (vG E) x1 0 _ _  hm) q858 q861 q72 md_X7_its (Nat.le_of_ble_eq_true rfl) (Nat.le_of_ble_eq_true rfl) rfl rfl (Nat.le_of_ble_eq_true rfl) dX7_spoilsOf_19 (fun v7 S6 hm => ?_)
  rcases ifc hm with ⟨hx, hm⟩ | ⟨h22_2, hm⟩
  · refine cf_tsIn C 2 dX7_spoilsOf_22 (by rw [hx]; rfl) (by decide) (by decide) (off := 34) (by rfl) (tgt := 56) (by decide) ?_
    refine cf_iload_n C dX7_spoilsOf_56 rfl 1 rfl ?_
    refine cf_iconst C dX7_spoilsOf_57 (v := 1) rfl ?_
    refine cf_iadd C dX7_spoilsOf_58 ?_
    exact hR _ _ _ _ dX7_spoilsOf_59 hm
  rcases ifc hm with ⟨hx, hm⟩ | ⟨h22_3, hm⟩
  · refine cf_tsIn C 3 dX7_spoilsOf_22 (by rw [hx]; rfl) (by decide) (by decide) (off := 38) (by rfl) (tgt := 60) (by decide) ?_
    refine cf_iconst C dX7_spoilsOf_60 (v := 0) rfl ?_
    exact hR _ _ _ _ dX7_spoilsOf_61 hm
  rcases ifc hm with ⟨hx, hm⟩ | ⟨h22_4, hm⟩
  · refine cf_tsIn C 4 dX7_spoilsOf_22 (by rw [hx]; rfl) (by decide) (by decide) (off := 40) (by rfl) (tgt := 62) (by decide) ?_
    refine cf_iload_n C dX7_spoilsOf_62 rfl 1 rfl ?_
    refine cf_if_le C (tgt := 72) dX7_spoilsOf_63 (by decide) hm (fun hm => ?_) (fun hm => ?_)
    · refine cf_iconst C dX7_spoilsOf_72 (v := 0) rfl ?_
      exact hR _ _ _ _ dX7_spoilsOf_73 hm
    · refine cf_iload_n C dX7_spoilsOf_66 rfl 1 rfl ?_
      refine cf_iconst C dX7_spoilsOf_67 (v := 1) rfl ?_
      refine cf_isub C dX7_spoilsOf_68 ?_
      refine cf_goto C (tgt := 73) dX7_spoilsOf_69 (by decide) ?_
      exact hR _ _ _ _ dX7_spoilsOf_73 hm
  rcases ifc hm with ⟨hx, hm⟩ | ⟨h22_5, hm⟩
  · refine cf_tsIn C 5 dX7_spoilsOf_22 (by rw [hx]; rfl) (by decide) (by decide) (off := 52) (by rfl) (tgt := 74) (by decide) ?_
    refine cf_iload_n C dX7_spoilsOf_74 rfl 0 rfl ?_
    refine cf_iconst C dX7_spoilsOf_75 (v := 4) rfl ?_
    refine cf_icmp_le C (tgt := 83) dX7_spoilsOf_76 (by decide) hm (fun hm => ?_) (fun hm => ?_)
    · refine cf_iload_n C dX7_spoilsOf_83 rfl 1 rfl ?_
      refine cf_iconst C dX7_spoilsOf_84 (v := 1) rfl ?_
      refine cf_iadd C dX7_spoilsOf_85 ?_
      exact hR _ _ _ _ dX7_spoilsOf_86 hm
    · refine cf_iconst C dX7_spoilsOf_79 (v := 0) rfl ?_
      refine cf_goto C (tgt := 86) dX7_spoilsOf_80 (by decide) ?_
      exact hR _ _ _ _ dX7_spoilsOf_86 hm
  rcases ifc hm with ⟨hx, hm⟩ | ⟨h22_6, hm⟩
  · refine cf_tsIn C 6 dX7_spoilsOf_22 (by rw [hx]; rfl) (by decide) (by decide) (off := 65) (by rfl) (tgt := 87) (by decide) ?_
    refine cf_iload_n C dX7_spoilsOf_87 rfl 1 rfl ?_
    refine cf_iload_n C dX7_spoilsOf_88 rfl 0 rfl ?_
    refine cf_imul C dX7_spoilsOf_89 ?_
    refine cf_iconst C dX7_spoilsOf_90 (v := 4) rfl ?_
    refine cf_idivC C dX7_spoilsOf_91 (by decide) ?_
    exact hR _ _ _ _ dX7_spoilsOf_92 hm
  refine cf_tsD C 5 [2, 3, 4, 5, 6] dX7_spoilsOf_22 (by decide) (by decide +kernel) (List.forall_mem_cons.mpr ⟨lv_neT h22_2 rfl, (List.forall_mem_cons.mpr ⟨lv_neT h22_3 rfl, (List.forall_mem_cons.mpr ⟨lv_neT h22_4 rfl, (List.forall_mem_cons.mpr ⟨lv_neT h22_5 rfl, (List.forall_mem_cons.mpr ⟨lv_neT h22_6 rfl, (fun _ h => absurd h List.not_mem_nil)⟩)⟩)⟩)⟩)⟩) (tgt := 93) (by decide) ?_
  refine cf_iload_n C dX7_spoilsOf_93 rfl 1 rfl ?_
  exact hR _ _ _ _ dX7_spoilsOf_94 hm

def L_X7_findRuler_4    (Q : Int32 → St → Prop) : Nat → Int32 → Int32 → St → Prop
  | 0 => fun _ _ _ => False
  | n + 1 => fun x1 x2 S => vp_in 5 387 ∧ (if (S.2 17 0 (5 : Int32).toNatClampNeg) ≤ x2 then (Q x1 S) else (E_X7_claimOf x2 S (fun v2 S1 => vp_in x2 9 ∧ (nmS (stR S1 17 12 (upd (S1.2 17 12) x2.toNatClampNeg v2)) (fun S3 => E_X7_its x2 2 S3 (fun v5 S4 => if v5 ≤ 0 then (nmI (x2 + 1) (fun v6 => L_X7_findRuler_4 Q n x1 v6 S4)) else (if x1 = (-1) then (nmI (x2 + 1) (fun v7 => L_X7_findRuler_4 Q n x2 v7 S4)) else (vp_in x2 9 ∧ (vp_in x1 9 ∧ (if (S4.2 17 12 x2.toNatClampNeg) ≤ (S4.2 17 12 x1.toNatClampNeg) then (nmI (x2 + 1) (fun v8 => L_X7_findRuler_4 Q n x1 v8 S4)) else (nmI (x2 + 1) (fun v9 => L_X7_findRuler_4 Q n x2 v9 S4))))))))))))
set_option maxRecDepth 20000 in
theorem w_L_X7_findRuler_4 {E : EV} {Q : Int32 → St → Prop}   (C : CX E cX7_findRuler RX7 3 enM 4 92)   (hR : RTi E cX7_findRuler Q) : ∀ (n : Nat) (x1 : Int32) (x2 : Int32) (S : St), L_X7_findRuler_4 Q n x1 x2 S → CF E S 4 [(0, .ref (adr (vG E) 17 0)), (1, .int x1), (2, .int x2)] [] := by
  intro n
  induction n with
  | zero =>
    intro x1 x2 S hm
    exact hm.elim
  | succ n ih =>
    intro x1 x2 S hm
    unfold L_X7_findRuler_4 at hm
    refine cf_iload_n C dX7_findRuler_4 rfl 2 rfl ?_
    refine cf_aload_n C dX7_findRuler_5 rfl 0 rfl ?_
    refine gf_7_0 C inX7 okM_17 q694 dX7_findRuler_6 ?_
    refine cf_iconst C dX7_findRuler_9 (v := 5) rfl ?_
    refine cf_iald C (okA_of 0 okM_17 rfl (by decide) (by decide) (by decide)) dX7_findRuler_10 hm (fun hm => ?_)
    refine cf_icmp_ge C (tgt := 66) dX7_findRuler_11 (by decide) hm (fun hm => ?_) (fun hm => ?_)
    · refine cf_iload_n C dX7_findRuler_66 rfl 1 rfl ?_
      exact hR _ _ _ _ dX7_findRuler_67 hm
    · refine cf_aload_n C dX7_findRuler_14 rfl 0 rfl ?_
      refine gf_7_12 C inX7 okM_17 q706 dX7_findRuler_15 ?_
      refine cf_iload_n C dX7_findRuler_18 rfl 2 rfl ?_
      refine cf_aload_n C dX7_findRuler_19 rfl 0 rfl ?_
      refine cf_iload_n C dX7_findRuler_20 rfl 2 rfl ?_
      refine cf_callVi C [.int x2] [.int x2, .ref (adr (vG E) 17 13)] okM_17.1 (ocell_7 okM_17.2.1) rfl q852 q34 (c_X7_claimOf (vL E) (vG E) x2 _ _  hm) q850 q853 q72 md_X7_claimOf (Nat.le_of_ble_eq_true rfl) (Nat.le_of_ble_eq_true rfl) rfl rfl (Nat.le_of_ble_eq_true rfl) dX7_findRuler_21 (fun v2 S1 hm => ?_)
      refine cf_iast C (okA_of 12 okM_17 rfl (by decide) (by decide) (by decide)) dX7_findRuler_24 hm (fun hm => ?_)
      refine cf_nmS hm (fun S3 hm => ?_)
      refine cf_aload_n C dX7_findRuler_25 rfl 0 rfl ?_
      refine cf_iload_n C dX7_findRuler_26 rfl 2 rfl ?_
      refine cf_iconst C dX7_findRuler_27 (v := 2) rfl ?_
      refine cf_callVi C [.int x2, .int 2] [] okM_17.1 (ocell_7 okM_17.2.1) rfl q860 q36 (c_X7_its (vL E) (vG E) x2 2 _ _  hm) q858 q861 q72 md_X7_its (Nat.le_of_ble_eq_true rfl) (Nat.le_of_ble_eq_true rfl) rfl rfl (Nat.le_of_ble_eq_true rfl) dX7_findRuler_28 (fun v5 S4 hm => ?_)
      refine cf_if_le C (tgt := 58) dX7_findRuler_31 (by decide) hm (fun hm => ?_) (fun hm => ?_)
      · refine cf_iload_n C dX7_findRuler_58 rfl 1 rfl ?_
        refine cf_istore_n C (L1 := [(1, .int x1), (0, .ref (adr (vG E) 17 0)), (2, .int x2)]) dX7_findRuler_59 rfl (by decide) rfl ?_
        refine cf_iincN C (L1 := fun v6 => [(2, .int v6), (1, .int x1), (0, .ref (adr (vG E) 17 0))]) dX7_findRuler_60 2 rfl rfl (by decide) (fun _ => rfl) hm (fun v6 hm => ?_)
        refine cf_goto C (tgt := 4) dX7_findRuler_63 (by decide) ?_
        refine cf_sub C [2, 1, 0] rfl ?_
        exact ih x1 v6 _ hm
      · refine cf_iload_n C dX7_findRuler_34 rfl 1 rfl ?_
        refine cf_iconst C dX7_findRuler_35 (v := (-1)) rfl ?_
        refine cf_icmp_eq C (tgt := 54) dX7_findRuler_36 (by decide) hm (fun hm => ?_) (fun hm => ?_)
        · refine cf_iload_n C dX7_findRuler_54 rfl 2 rfl ?_
          refine cf_goto C (tgt := 59) dX7_findRuler_55 (by decide) ?_
          refine cf_istore_n C (L1 := [(1, .int x2), (0, .ref (adr (vG E) 17 0)), (2, .int x2)]) dX7_findRuler_59 rfl (by decide) rfl ?_
          refine cf_iincN C (L1 := fun v7 => [(2, .int v7), (1, .int x2), (0, .ref (adr (vG E) 17 0))]) dX7_findRuler_60 2 rfl rfl (by decide) (fun _ => rfl) hm (fun v7 hm => ?_)
          refine cf_goto C (tgt := 4) dX7_findRuler_63 (by decide) ?_
          refine cf_sub C [2, 1, 0] rfl ?_
          exact ih x2 v7 _ hm
        · refine cf_aload_n C dX7_findRuler_39 rfl 0 rfl ?_
          refine gf_7_12 C inX7 okM_17 q706 dX7_findRuler_40 ?_
          refine cf_iload_n C dX7_findRuler_43 rfl 2 rfl ?_
          refine cf_iald C (okA_of 12 okM_17 rfl (by decide) (by decide) (by decide)) dX7_findRuler_44 hm (fun hm => ?_)
          refine cf_aload_n C dX7_findRuler_45 rfl 0 rfl ?_
          refine gf_7_12 C inX7 okM_17 q706 dX7_findRuler_46 ?_
          refine cf_iload_n C dX7_findRuler_49 rfl 1 rfl ?_
          refine cf_iald C (okA_of 12 okM_17 rfl (by decide) (by decide) (by decide)) dX7_findRuler_50 hm (fun hm => ?_)
          refine cf_icmp_le C (tgt := 58) dX7_findRuler_51 (by decide) hm (fun hm => ?_) (fun hm => ?_)
          · refine cf_iload_n C dX7_findRuler_58 rfl 1 rfl ?_
            refine cf_istore_n C (L1 := [(1, .int x1), (0, .ref (adr (vG E) 17 0)), (2, .int x2)]) dX7_findRuler_59 rfl (by decide) rfl ?_
            refine cf_iincN C (L1 := fun v8 => [(2, .int v8), (1, .int x1), (0, .ref (adr (vG E) 17 0))]) dX7_findRuler_60 2 rfl rfl (by decide) (fun _ => rfl) hm (fun v8 hm => ?_)
            refine cf_goto C (tgt := 4) dX7_findRuler_63 (by decide) ?_
            refine cf_sub C [2, 1, 0] rfl ?_
            exact ih x1 v8 _ hm
          · refine cf_iload_n C dX7_findRuler_54 rfl 2 rfl ?_
            refine cf_goto C (tgt := 59) dX7_findRuler_55 (by decide) ?_
            refine cf_istore_n C (L1 := [(1, .int x2), (0, .ref (adr (vG E) 17 0)), (2, .int x2)]) dX7_findRuler_59 rfl (by decide) rfl ?_
            refine cf_iincN C (L1 := fun v9 => [(2, .int v9), (1, .int x2), (0, .ref (adr (vG E) 17 0))]) dX7_findRuler_60 2 rfl rfl (by decide) (fun _ => rfl) hm (fun v9 hm => ?_)
            refine cf_goto C (tgt := 4) dX7_findRuler_63 (by decide) ?_
            refine cf_sub C [2, 1, 0] rfl ?_
            exact ih x2 v9 _ hm
def E_X7_findRuler  (S : St) (Q : Int32 → St → Prop) : Prop := ∃ k, L_X7_findRuler_4 Q k (-1) 0 S
set_option maxRecDepth 20000 in
theorem c_X7_findRuler (l : Launch) (G : GX)  (S : St) (Q : Int32 → St → Prop)  (hm : E_X7_findRuler  S Q) : CTi l yX7_findRuler (Cond.code yX7_findRuler cX7_findRuler 3 (some .int) :: AW) { frames := 4, cells := 0, slots := 0, locals := 92 } G enM [.ref (adr G 17 0)] S Q := by
  refine ct_start_i (by decide) enM_nd (Nat.le_of_ble_eq_true rfl) (fun E hG hl C hR => ?_)
  subst hG
  subst hl
  show CF E S 0 [(0, .ref (adr (vG E) 17 0))] []
  unfold E_X7_findRuler at hm
  refine cf_iconst C dX7_findRuler_0 (v := (-1)) rfl ?_
  refine cf_istore_n C (L1 := [(1, .int ((-1))), (0, .ref (adr (vG E) 17 0))]) dX7_findRuler_1 rfl (by decide) rfl ?_
  refine cf_iconst C dX7_findRuler_2 (v := 0) rfl ?_
  refine cf_istore_n C (L1 := [(2, .int 0), (1, .int ((-1))), (0, .ref (adr (vG E) 17 0))]) dX7_findRuler_3 rfl (by decide) rfl ?_
  refine cf_sub C [2, 1, 0] rfl ?_
  obtain ⟨k, hm⟩ := hm
  exact w_L_X7_findRuler_4 C hR k (-1) 0 _ hm

def E_X7_keepingTold (x1 : Int32) (x2 : Int32) (x3 : Int32) (S : St) (Q : Int32 → St → Prop) : Prop := E_X7_hasText 1 S (fun v2 S1 => if v2 = 0 then (nmL ((x1.toInt64) - (x2.toInt64)) (fun v10 => if (lg_cmp v10 (-2)) ≤ 0 then (Q 0 S1) else (if 0 ≤ (lg_cmp v10 2) then (Q 0 S1) else (Q 1 S1)))) else (vp_in 102 128 ∧ (nmS (stR S1 17 10 (upd (S1.2 17 10) (102 : Int32).toNatClampNeg x1)) (fun S3 => vp_in 114 128 ∧ (nmS (stR S3 17 10 (upd (S3.2 17 10) (114 : Int32).toNatClampNeg x2)) (fun S4 => vp_in 100 128 ∧ (nmS (stR S4 17 10 (upd (S4.2 17 10) (100 : Int32).toNatClampNeg x3)) (fun S5 => E_X7_worked 1 S5 (fun v7 S6 => E_X7_held v7 0 1 S6 (fun v9 S8 => Q v9 S8))))))))))
set_option maxRecDepth 20000 in
theorem c_X7_keepingTold (l : Launch) (G : GX) (x1 : Int32) (x2 : Int32) (x3 : Int32) (S : St) (Q : Int32 → St → Prop)  (hm : E_X7_keepingTold x1 x2 x3 S Q) : CTi l yX7_keepingTold (Cond.code yX7_keepingTold cX7_keepingTold 6 (some .int) :: AW) { frames := 2, cells := 0, slots := 0, locals := 48 } G enM [.ref (adr G 17 0), .int x1, .int x2, .int x3] S Q := by
  refine ct_start_i (by decide) enM_nd (Nat.le_of_ble_eq_true rfl) (fun E hG hl C hR => ?_)
  subst hG
  subst hl
  show CF E S 0 [(0, .ref (adr (vG E) 17 0)), (1, .int x1), (2, .int x2), (3, .int x3)] []
  unfold E_X7_keepingTold at hm
  refine cf_aload_n C dX7_keepingTold_0 rfl 0 rfl ?_
  refine cf_iconst C dX7_keepingTold_1 (v := 1) rfl ?_
  refine cf_callVi C [.int 1] [] okM_17.1 (ocell_7 okM_17.2.1) rfl q825 q30 (c_X7_hasText (vL E) (vG E) 1 _ _  hm) q823 q826 q72 md_X7_hasText (Nat.le_of_ble_eq_true rfl) (Nat.le_of_ble_eq_true rfl) rfl rfl (Nat.le_of_ble_eq_true rfl) dX7_keepingTold_2 (fun v2 S1 hm => ?_)
  refine cf_if_ne C (tgt := 39) dX7_keepingTold_5 (by decide) hm (fun hm => ?_) (fun hm => ?_)
  · refine cf_aload_n C dX7_keepingTold_39 rfl 0 rfl ?_
    refine gf_7_10 C inX7 okM_17 q704 dX7_keepingTold_40 ?_
    refine cf_bipush C dX7_keepingTold_43 (v := 102) rfl ?_
    refine cf_iload_n C dX7_keepingTold_45 rfl 1 rfl ?_
    refine cf_iast C (okA_of 10 okM_17 rfl (by decide) (by decide) (by decide)) dX7_keepingTold_46 hm (fun hm => ?_)
    refine cf_nmS hm (fun S3 hm => ?_)
    refine cf_aload_n C dX7_keepingTold_47 rfl 0 rfl ?_
    refine gf_7_10 C inX7 okM_17 q704 dX7_keepingTold_48 ?_
    refine cf_bipush C dX7_keepingTold_51 (v := 114) rfl ?_
    refine cf_iload_n C dX7_keepingTold_53 rfl 2 rfl ?_
    refine cf_iast C (okA_of 10 okM_17 rfl (by decide) (by decide) (by decide)) dX7_keepingTold_54 hm (fun hm => ?_)
    refine cf_nmS hm (fun S4 hm => ?_)
    refine cf_aload_n C dX7_keepingTold_55 rfl 0 rfl ?_
    refine gf_7_10 C inX7 okM_17 q704 dX7_keepingTold_56 ?_
    refine cf_bipush C dX7_keepingTold_59 (v := 100) rfl ?_
    refine cf_iload_n C dX7_keepingTold_61 rfl 3 rfl ?_
    refine cf_iast C (okA_of 10 okM_17 rfl (by decide) (by decide) (by decide)) dX7_keepingTold_62 hm (fun hm => ?_)
    refine cf_nmS hm (fun S5 hm => ?_)
    refine cf_aload_n C dX7_keepingTold_63 rfl 0 rfl ?_
    refine cf_iconst C dX7_keepingTold_64 (v := 1) rfl ?_
    refine cf_callVi C [.int 1] [] okM_17.1 (ocell_7 okM_17.2.1) rfl q868 q38 (c_X7_worked (vL E) (vG E) 1 _ _  hm) q866 q869 q72 md_X7_worked (Nat.le_of_ble_eq_true rfl) (Nat.le_of_ble_eq_true rfl) rfl rfl (Nat.le_of_ble_eq_true rfl) dX7_keepingTold_65 (fun v7 S6 hm => ?_)
    refine cf_iconst C dX7_keepingTold_68 (v := 0) rfl ?_
    refine cf_iconst C dX7_keepingTold_69 (v := 1) rfl ?_
    refine cf_callSi C [.int v7, .int 0, .int 1] [] q874 (c_X7_held (vL E) (vG E) v7 0 1 _ _  hm) q873 q875 q72 md_X7_held (Nat.le_of_ble_eq_true rfl) (Nat.le_of_ble_eq_true rfl) rfl rfl (Nat.le_of_ble_eq_true rfl) dX7_keepingTold_70 (fun v9 S8 hm => ?_)
    exact hR _ _ _ _ dX7_keepingTold_73 hm
  · refine cf_iload_n C dX7_keepingTold_8 rfl 1 rfl ?_
    refine cf_i2l C dX7_keepingTold_9 ?_
    refine cf_iload_n C dX7_keepingTold_10 rfl 2 rfl ?_
    refine cf_i2l C dX7_keepingTold_11 ?_
    refine cf_lsub C dX7_keepingTold_12 ?_
    refine cf_nmL hm (fun v10 hm => ?_)
    refine cf_lstore C (L1 := [(4, .long (v10)), (0, .ref (adr (vG E) 17 0)), (1, .int x1), (2, .int x2), (3, .int x3)]) dX7_keepingTold_13 (by decide) rfl ?_
    refine cf_lload C dX7_keepingTold_15 0 rfl ?_
    refine cf_ldc2 C dX7_keepingTold_17 q892 ?_
    refine cf_lcmp C dX7_keepingTold_20 ?_
    refine cf_if_le C (tgt := 37) dX7_keepingTold_21 (by decide) hm (fun hm => ?_) (fun hm => ?_)
    · refine cf_iconst C dX7_keepingTold_37 (v := 0) rfl ?_
      exact hR _ _ _ _ dX7_keepingTold_38 hm
    · refine cf_lload C dX7_keepingTold_24 0 rfl ?_
      refine cf_ldc2 C dX7_keepingTold_26 q893 ?_
      refine cf_lcmp C dX7_keepingTold_29 ?_
      refine cf_if_ge C (tgt := 37) dX7_keepingTold_30 (by decide) hm (fun hm => ?_) (fun hm => ?_)
      · refine cf_iconst C dX7_keepingTold_37 (v := 0) rfl ?_
        exact hR _ _ _ _ dX7_keepingTold_38 hm
      · refine cf_iconst C dX7_keepingTold_33 (v := 1) rfl ?_
        refine cf_goto C (tgt := 38) dX7_keepingTold_34 (by decide) ?_
        exact hR _ _ _ _ dX7_keepingTold_38 hm

def E_X7_isInKeeping (x1 : Int32) (x2 : Int32) (S : St) (Q : Int32 → St → Prop) : Prop := if x2 = (-1) then (Q 0 S) else (E_X7_its x1 4 S (fun v2 S1 => E_X7_its x2 4 S1 (fun v4 S3 => vp_in 0 387 ∧ (E_X7_keepingTold v2 v4 ((S3.2 17 0 (0 : Int32).toNatClampNeg) - (S3.2 17 0 (0 : Int32).toNatClampNeg) / 7 * 7) S3 (fun v6 S5 => if v6 = 1 then (Q 1 S5) else (Q 0 S5))))))
set_option maxRecDepth 20000 in
theorem c_X7_isInKeeping (l : Launch) (G : GX) (x1 : Int32) (x2 : Int32) (S : St) (Q : Int32 → St → Prop)  (hm : E_X7_isInKeeping x1 x2 S Q) : CTi l yX7_isInKeeping (Cond.code yX7_isInKeeping cX7_isInKeeping 3 (some .boolean) :: AW) { frames := 3, cells := 0, slots := 0, locals := 73 } G enM [.ref (adr G 17 0), .int x1, .int x2] S Q := by
  refine ct_start_z (by decide) enM_nd (Nat.le_of_ble_eq_true rfl) (fun E hG hl C hR => ?_)
  subst hG
  subst hl
  show CF E S 0 [(0, .ref (adr (vG E) 17 0)), (1, .int x1), (2, .int x2)] []
  unfold E_X7_isInKeeping at hm
  refine cf_iload_n C dX7_isInKeeping_0 rfl 2 rfl ?_
  refine cf_iconst C dX7_isInKeeping_1 (v := (-1)) rfl ?_
  refine cf_icmp_eq C (tgt := 38) dX7_isInKeeping_2 (by decide) hm (fun hm => ?_) (fun hm => ?_)
  · refine cf_iconst C dX7_isInKeeping_38 (v := 0) rfl ?_
    exact hR _ _ _ _ dX7_isInKeeping_39 (Or.inl rfl) hm
  · refine cf_aload_n C dX7_isInKeeping_5 rfl 0 rfl ?_
    refine cf_aload_n C dX7_isInKeeping_6 rfl 0 rfl ?_
    refine cf_iload_n C dX7_isInKeeping_7 rfl 1 rfl ?_
    refine cf_iconst C dX7_isInKeeping_8 (v := 4) rfl ?_
    refine cf_callVi C [.int x1, .int 4] [.ref (adr (vG E) 17 0)] okM_17.1 (ocell_7 okM_17.2.1) rfl q860 q36 (c_X7_its (vL E) (vG E) x1 4 _ _  hm) q858 q861 q72 md_X7_its (Nat.le_of_ble_eq_true rfl) (Nat.le_of_ble_eq_true rfl) rfl rfl (Nat.le_of_ble_eq_true rfl) dX7_isInKeeping_9 (fun v2 S1 hm => ?_)
    refine cf_aload_n C dX7_isInKeeping_12 rfl 0 rfl ?_
    refine cf_iload_n C dX7_isInKeeping_13 rfl 2 rfl ?_
    refine cf_iconst C dX7_isInKeeping_14 (v := 4) rfl ?_
    refine cf_callVi C [.int x2, .int 4] [.int v2, .ref (adr (vG E) 17 0)] okM_17.1 (ocell_7 okM_17.2.1) rfl q860 q36 (c_X7_its (vL E) (vG E) x2 4 _ _  hm) q858 q861 q72 md_X7_its (Nat.le_of_ble_eq_true rfl) (Nat.le_of_ble_eq_true rfl) rfl rfl (Nat.le_of_ble_eq_true rfl) dX7_isInKeeping_15 (fun v4 S3 hm => ?_)
    refine cf_aload_n C dX7_isInKeeping_18 rfl 0 rfl ?_
    refine gf_7_0 C inX7 okM_17 q694 dX7_isInKeeping_19 ?_
    refine cf_iconst C dX7_isInKeeping_22 (v := 0) rfl ?_
    refine cf_iald C (okA_of 0 okM_17 rfl (by decide) (by decide) (by decide)) dX7_isInKeeping_23 hm (fun hm => ?_)
    refine cf_bipush C dX7_isInKeeping_24 (v := 7) rfl ?_
    refine cf_iremC C dX7_isInKeeping_26 (by decide) ?_
    refine cf_callVi C [.int v2, .int v4, .int ((S3.2 17 0 (0 : Int32).toNatClampNeg) - (S3.2 17 0 (0 : Int32).toNatClampNeg) / 7 * 7)] [] okM_17.1 (ocell_7 okM_17.2.1) rfl q890 q42 (c_X7_keepingTold (vL E) (vG E) v2 v4 ((S3.2 17 0 (0 : Int32).toNatClampNeg) - (S3.2 17 0 (0 : Int32).toNatClampNeg) / 7 * 7) _ _  hm) q888 q891 q72 md_X7_keepingTold (Nat.le_of_ble_eq_true rfl) (Nat.le_of_ble_eq_true rfl) rfl rfl (Nat.le_of_ble_eq_true rfl) dX7_isInKeeping_27 (fun v6 S5 hm => ?_)
    refine cf_iconst C dX7_isInKeeping_30 (v := 1) rfl ?_
    refine cf_icmp_ne C (tgt := 38) dX7_isInKeeping_31 (by decide) hm (fun hm => ?_) (fun hm => ?_)
    · refine cf_iconst C dX7_isInKeeping_38 (v := 0) rfl ?_
      exact hR _ _ _ _ dX7_isInKeeping_39 (Or.inl rfl) hm
    · refine cf_iconst C dX7_isInKeeping_34 (v := 1) rfl ?_
      refine cf_goto C (tgt := 39) dX7_isInKeeping_35 (by decide) ?_
      exact hR _ _ _ _ dX7_isInKeeping_39 (Or.inr rfl) hm

def E_X7_dishIs (x1 : Int32) (x2 : Int32) (S : St) (Q : Int32 → St → Prop) : Prop := E_X7_isDish x1 S (fun v2 S1 => if v2 = 0 then (E_X7_error 1 S1 (fun v4 S3 => Q v4 S3)) else (E_X7_in x2 0 7 S1 (fun v6 S5 => if v6 = 0 then (E_X7_error 1 S5 (fun v18 S17 => Q v18 S17)) else (if x2 = 5 then (E_X7_claimOf x1 S5 (fun v8 S7 => Q v8 S7)) else (if x2 = 6 then (E_X7_spoilsOf x1 S5 (fun v10 S9 => Q v10 S9)) else (if x2 = 7 then (E_X7_findRuler S5 (fun v12 S11 => E_X7_isInKeeping x1 v12 S11 (fun v14 S13 => if v14 = 0 then (Q 0 S13) else (Q 1 S13)))) else (E_X7_its x1 x2 S5 (fun v16 S15 => Q v16 S15))))))))
set_option maxRecDepth 20000 in
theorem c_X7_dishIs (l : Launch) (G : GX) (x1 : Int32) (x2 : Int32) (S : St) (Q : Int32 → St → Prop)  (hm : E_X7_dishIs x1 x2 S Q) : CTi l yX7_dishIs (Cond.code yX7_dishIs cX7_dishIs 3 (some .int) :: AW) { frames := 5, cells := 0, slots := 0, locals := 114 } G enM [.ref (adr G 17 0), .int x1, .int x2] S Q := by
  refine ct_start_i (by decide) enM_nd (Nat.le_of_ble_eq_true rfl) (fun E hG hl C hR => ?_)
  subst hG
  subst hl
  show CF E S 0 [(0, .ref (adr (vG E) 17 0)), (1, .int x1), (2, .int x2)] []
  unfold E_X7_dishIs at hm
  refine cf_aload_n C dX7_dishIs_0 rfl 0 rfl ?_
  refine cf_iload_n C dX7_dishIs_1 rfl 1 rfl ?_
  refine cf_callVi C [.int x1] [] okM_17.1 (ocell_7 okM_17.2.1) rfl q848 q33 (c_X7_isDish (vL E) (vG E) x1 _ _  hm) q846 q849 q72 md_X7_isDish (Nat.le_of_ble_eq_true rfl) (Nat.le_of_ble_eq_true rfl) rfl rfl (Nat.le_of_ble_eq_true rfl) dX7_dishIs_2 (fun v2 S1 hm => ?_)
  refine cf_if_eq C (tgt := 18) dX7_dishIs_5 (by decide) hm (fun hm => ?_) (fun hm => ?_)
  · refine cf_aload_n C dX7_dishIs_18 rfl 0 rfl ?_
    refine cf_iconst C dX7_dishIs_19 (v := 1) rfl ?_
    refine cf_callVi C [.int 1] [] okM_17.1 (ocell_7 okM_17.2.1) rfl q771 q19 (c_X7_error (vL E) (vG E) 1 _ _  hm) q769 q772 q72 md_X7_error (Nat.le_of_ble_eq_true rfl) (Nat.le_of_ble_eq_true rfl) rfl rfl (Nat.le_of_ble_eq_true rfl) dX7_dishIs_20 (fun v4 S3 hm => ?_)
    exact hR _ _ _ _ dX7_dishIs_23 hm
  · refine cf_iload_n C dX7_dishIs_8 rfl 2 rfl ?_
    refine cf_iconst C dX7_dishIs_9 (v := 0) rfl ?_
    refine cf_bipush C dX7_dishIs_10 (v := 7) rfl ?_
    refine cf_callSi C [.int x2, .int 0, .int 7] [] q767 (c_X7_in (vL E) (vG E) x2 0 7 _ _  hm) q766 q768 q72 md_X7_in (Nat.le_of_ble_eq_true rfl) (Nat.le_of_ble_eq_true rfl) rfl rfl (Nat.le_of_ble_eq_true rfl) dX7_dishIs_12 (fun v6 S5 hm => ?_)
    refine cf_if_ne C (tgt := 24) dX7_dishIs_15 (by decide) hm (fun hm => ?_) (fun hm => ?_)
    · refine cf_iload_n C dX7_dishIs_24 rfl 2 rfl ?_
      rcases ifc hm with ⟨hx, hm⟩ | ⟨h25_5, hm⟩
      · refine cf_tsIn C 5 dX7_dishIs_25 (by rw [hx]; rfl) (by decide) (by decide) (off := 27) (by rfl) (tgt := 52) (by decide) ?_
        refine cf_aload_n C dX7_dishIs_52 rfl 0 rfl ?_
        refine cf_iload_n C dX7_dishIs_53 rfl 1 rfl ?_
        refine cf_callVi C [.int x1] [] okM_17.1 (ocell_7 okM_17.2.1) rfl q852 q34 (c_X7_claimOf (vL E) (vG E) x1 _ _  hm) q850 q853 q72 md_X7_claimOf (Nat.le_of_ble_eq_true rfl) (Nat.le_of_ble_eq_true rfl) rfl rfl (Nat.le_of_ble_eq_true rfl) dX7_dishIs_54 (fun v8 S7 hm => ?_)
        exact hR _ _ _ _ dX7_dishIs_57 hm
      rcases ifc hm with ⟨hx, hm⟩ | ⟨h25_6, hm⟩
      · refine cf_tsIn C 6 dX7_dishIs_25 (by rw [hx]; rfl) (by decide) (by decide) (off := 33) (by rfl) (tgt := 58) (by decide) ?_
        refine cf_aload_n C dX7_dishIs_58 rfl 0 rfl ?_
        refine cf_iload_n C dX7_dishIs_59 rfl 1 rfl ?_
        refine cf_callVi C [.int x1] [] okM_17.1 (ocell_7 okM_17.2.1) rfl q878 q39 (c_X7_spoilsOf (vL E) (vG E) x1 _ _  hm) q876 q879 q72 md_X7_spoilsOf (Nat.le_of_ble_eq_true rfl) (Nat.le_of_ble_eq_true rfl) rfl rfl (Nat.le_of_ble_eq_true rfl) dX7_dishIs_60 (fun v10 S9 hm => ?_)
        exact hR _ _ _ _ dX7_dishIs_63 hm
      rcases ifc hm with ⟨hx, hm⟩ | ⟨h25_7, hm⟩
      · refine cf_tsIn C 7 dX7_dishIs_25 (by rw [hx]; rfl) (by decide) (by decide) (off := 39) (by rfl) (tgt := 64) (by decide) ?_
        refine cf_aload_n C dX7_dishIs_64 rfl 0 rfl ?_
        refine cf_iload_n C dX7_dishIs_65 rfl 1 rfl ?_
        refine cf_aload_n C dX7_dishIs_66 rfl 0 rfl ?_
        refine cf_callVi C [] [.int x1, .ref (adr (vG E) 17 0)] okM_17.1 (ocell_7 okM_17.2.1) rfl q882 q40 (c_X7_findRuler (vL E) (vG E)  _ _  hm) q880 q883 q72 md_X7_findRuler (Nat.le_of_ble_eq_true rfl) (Nat.le_of_ble_eq_true rfl) rfl rfl (Nat.le_of_ble_eq_true rfl) dX7_dishIs_67 (fun v12 S11 hm => ?_)
        refine cf_callVi C [.int x1, .int v12] [] okM_17.1 (ocell_7 okM_17.2.1) rfl q886 q41 (c_X7_isInKeeping (vL E) (vG E) x1 v12 _ _  hm) q884 q887 q72 md_X7_isInKeeping (Nat.le_of_ble_eq_true rfl) (Nat.le_of_ble_eq_true rfl) rfl rfl (Nat.le_of_ble_eq_true rfl) dX7_dishIs_70 (fun v14 S13 hm => ?_)
        refine cf_if_eq C (tgt := 80) dX7_dishIs_73 (by decide) hm (fun hm => ?_) (fun hm => ?_)
        · refine cf_iconst C dX7_dishIs_80 (v := 0) rfl ?_
          exact hR _ _ _ _ dX7_dishIs_81 hm
        · refine cf_iconst C dX7_dishIs_76 (v := 1) rfl ?_
          refine cf_goto C (tgt := 81) dX7_dishIs_77 (by decide) ?_
          exact hR _ _ _ _ dX7_dishIs_81 hm
      refine cf_tsD C 3 [5, 6, 7] dX7_dishIs_25 (by decide) (by decide +kernel) (List.forall_mem_cons.mpr ⟨lv_neT h25_5 rfl, (List.forall_mem_cons.mpr ⟨lv_neT h25_6 rfl, (List.forall_mem_cons.mpr ⟨lv_neT h25_7 rfl, (fun _ h => absurd h List.not_mem_nil)⟩)⟩)⟩) (tgt := 82) (by decide) ?_
      refine cf_aload_n C dX7_dishIs_82 rfl 0 rfl ?_
      refine cf_iload_n C dX7_dishIs_83 rfl 1 rfl ?_
      refine cf_iload_n C dX7_dishIs_84 rfl 2 rfl ?_
      refine cf_callVi C [.int x1, .int x2] [] okM_17.1 (ocell_7 okM_17.2.1) rfl q860 q36 (c_X7_its (vL E) (vG E) x1 x2 _ _  hm) q858 q861 q72 md_X7_its (Nat.le_of_ble_eq_true rfl) (Nat.le_of_ble_eq_true rfl) rfl rfl (Nat.le_of_ble_eq_true rfl) dX7_dishIs_85 (fun v16 S15 hm => ?_)
      exact hR _ _ _ _ dX7_dishIs_88 hm
    · refine cf_aload_n C dX7_dishIs_18 rfl 0 rfl ?_
      refine cf_iconst C dX7_dishIs_19 (v := 1) rfl ?_
      refine cf_callVi C [.int 1] [] okM_17.1 (ocell_7 okM_17.2.1) rfl q771 q19 (c_X7_error (vL E) (vG E) 1 _ _  hm) q769 q772 q72 md_X7_error (Nat.le_of_ble_eq_true rfl) (Nat.le_of_ble_eq_true rfl) rfl rfl (Nat.le_of_ble_eq_true rfl) dX7_dishIs_20 (fun v18 S17 hm => ?_)
      exact hR _ _ _ _ dX7_dishIs_23 hm

def E_X7_change1 (x1 : Int32) (x2 : Int32) (S : St) (Q : Int32 → St → Prop) : Prop := vp_in x1 387 ∧ (nmI (S.2 17 0 x1.toNatClampNeg) (fun v1 => vp_in x1 387 ∧ (nmS (stR S 17 0 (upd (S.2 17 0) x1.toNatClampNeg x2)) (fun S2 => Q v1 S2))))
set_option maxRecDepth 20000 in
theorem c_X7_change1 (l : Launch) (G : GX) (x1 : Int32) (x2 : Int32) (S : St) (Q : Int32 → St → Prop)  (hm : E_X7_change1 x1 x2 S Q) : CTi l yX7_change1 (Cond.code yX7_change1 cX7_change1 4 (some .int) :: AW) { frames := 0, cells := 0, slots := 0, locals := 0 } G enM [.ref (adr G 17 0), .int x1, .int x2] S Q := by
  refine ct_start_i (by decide) enM_nd (Nat.le_of_ble_eq_true rfl) (fun E hG hl C hR => ?_)
  subst hG
  subst hl
  show CF E S 0 [(0, .ref (adr (vG E) 17 0)), (1, .int x1), (2, .int x2)] []
  unfold E_X7_change1 at hm
  refine cf_aload_n C dX7_change1_0 rfl 0 rfl ?_
  refine gf_7_0 C inX7 okM_17 q694 dX7_change1_1 ?_
  refine cf_iload_n C dX7_change1_4 rfl 1 rfl ?_
  refine cf_iald C (okA_of 0 okM_17 rfl (by decide) (by decide) (by decide)) dX7_change1_5 hm (fun hm => ?_)
  refine cf_nmI hm (fun v1 hm => ?_)
  refine cf_istore_n C (L1 := [(3, .int v1), (0, .ref (adr (vG E) 17 0)), (1, .int x1), (2, .int x2)]) dX7_change1_6 rfl (by decide) rfl ?_
  refine cf_aload_n C dX7_change1_7 rfl 1 rfl ?_
  refine gf_7_0 C inX7 okM_17 q694 dX7_change1_8 ?_
  refine cf_iload_n C dX7_change1_11 rfl 2 rfl ?_
  refine cf_iload_n C dX7_change1_12 rfl 3 rfl ?_
  refine cf_iast C (okA_of 0 okM_17 rfl (by decide) (by decide) (by decide)) dX7_change1_13 hm (fun hm => ?_)
  refine cf_nmS hm (fun S2 hm => ?_)
  refine cf_iload_n C dX7_change1_14 rfl 0 rfl ?_
  exact hR _ _ _ _ dX7_change1_15 hm

def E_X7_become (x1 : Int32) (x2 : Int32) (S : St) (Q : Int32 → St → Prop) : Prop := E_X7_isDish x1 S (fun v2 S1 => if v2 = 0 then (E_X7_error 1 S1 (fun v4 S3 => Q v4 S3)) else (E_X7_isKind x2 S1 (fun v6 S5 => if v6 = 0 then (E_X7_error 1 S5 (fun v11 S10 => Q v11 S10)) else (E_X7_lays1 x1 1 (x2 - x2 / 10 * 10) S5 (fun S7 => E_X7_change1 ((8 + (5 * x1)) + 0) (x2 / 10) S7 (fun v9 S8 => Q v9 S8))))))
set_option maxRecDepth 20000 in
theorem c_X7_become (l : Launch) (G : GX) (x1 : Int32) (x2 : Int32) (S : St) (Q : Int32 → St → Prop)  (hm : E_X7_become x1 x2 S Q) : CTi l yX7_become (Cond.code yX7_become cX7_become 3 (some .int) :: AW) { frames := 2, cells := 0, slots := 0, locals := 43 } G enM [.ref (adr G 17 0), .int x1, .int x2] S Q := by
  refine ct_start_i (by decide) enM_nd (Nat.le_of_ble_eq_true rfl) (fun E hG hl C hR => ?_)
  subst hG
  subst hl
  show CF E S 0 [(0, .ref (adr (vG E) 17 0)), (1, .int x1), (2, .int x2)] []
  unfold E_X7_become at hm
  refine cf_aload_n C dX7_become_0 rfl 0 rfl ?_
  refine cf_iload_n C dX7_become_1 rfl 1 rfl ?_
  refine cf_callVi C [.int x1] [] okM_17.1 (ocell_7 okM_17.2.1) rfl q848 q33 (c_X7_isDish (vL E) (vG E) x1 _ _  hm) q846 q849 q72 md_X7_isDish (Nat.le_of_ble_eq_true rfl) (Nat.le_of_ble_eq_true rfl) rfl rfl (Nat.le_of_ble_eq_true rfl) dX7_become_2 (fun v2 S1 hm => ?_)
  refine cf_if_eq C (tgt := 15) dX7_become_5 (by decide) hm (fun hm => ?_) (fun hm => ?_)
  · refine cf_aload_n C dX7_become_15 rfl 0 rfl ?_
    refine cf_iconst C dX7_become_16 (v := 1) rfl ?_
    refine cf_callVi C [.int 1] [] okM_17.1 (ocell_7 okM_17.2.1) rfl q771 q19 (c_X7_error (vL E) (vG E) 1 _ _  hm) q769 q772 q72 md_X7_error (Nat.le_of_ble_eq_true rfl) (Nat.le_of_ble_eq_true rfl) rfl rfl (Nat.le_of_ble_eq_true rfl) dX7_become_17 (fun v4 S3 hm => ?_)
    exact hR _ _ _ _ dX7_become_20 hm
  · refine cf_iload_n C dX7_become_8 rfl 2 rfl ?_
    refine cf_callSi C [.int x2] [] q832 (c_X7_isKind (vL E) (vG E) x2 _ _  hm) q831 q833 q72 md_X7_isKind (Nat.le_of_ble_eq_true rfl) (Nat.le_of_ble_eq_true rfl) rfl rfl (Nat.le_of_ble_eq_true rfl) dX7_become_9 (fun v6 S5 hm => ?_)
    refine cf_if_ne C (tgt := 21) dX7_become_12 (by decide) hm (fun hm => ?_) (fun hm => ?_)
    · refine cf_aload_n C dX7_become_21 rfl 0 rfl ?_
      refine cf_iload_n C dX7_become_22 rfl 1 rfl ?_
      refine cf_iconst C dX7_become_23 (v := 1) rfl ?_
      refine cf_iload_n C dX7_become_24 rfl 2 rfl ?_
      refine cf_bipush C dX7_become_25 (v := 10) rfl ?_
      refine cf_iremC C dX7_become_27 (by decide) ?_
      refine cf_callVv C [.int x1, .int 1, .int (x2 - x2 / 10 * 10)] [] okM_17.1 (ocell_7 okM_17.2.1) rfl q840 q32 (c_X7_lays1 (vL E) (vG E) x1 1 (x2 - x2 / 10 * 10) _ _  hm) q838 q841 q72 md_X7_lays1 (Nat.le_of_ble_eq_true rfl) (Nat.le_of_ble_eq_true rfl) rfl rfl (Nat.le_of_ble_eq_true rfl) dX7_become_28 (fun S7 hm => ?_)
      refine cf_aload_n C dX7_become_31 rfl 0 rfl ?_
      refine cf_bipush C dX7_become_32 (v := 8) rfl ?_
      refine cf_iconst C dX7_become_34 (v := 5) rfl ?_
      refine cf_iload_n C dX7_become_35 rfl 1 rfl ?_
      refine cf_imul C dX7_become_36 ?_
      refine cf_iadd C dX7_become_37 ?_
      refine cf_iconst C dX7_become_38 (v := 0) rfl ?_
      refine cf_iadd C dX7_become_39 ?_
      refine cf_iload_n C dX7_become_40 rfl 2 rfl ?_
      refine cf_bipush C dX7_become_41 (v := 10) rfl ?_
      refine cf_idivC C dX7_become_43 (by decide) ?_
      refine cf_callVi C [.int ((8 + (5 * x1)) + 0), .int (x2 / 10)] [] okM_17.1 (ocell_7 okM_17.2.1) rfl q900 q43 (c_X7_change1 (vL E) (vG E) ((8 + (5 * x1)) + 0) (x2 / 10) _ _  hm) q898 q901 q72 md_X7_change1 (Nat.le_of_ble_eq_true rfl) (Nat.le_of_ble_eq_true rfl) rfl rfl (Nat.le_of_ble_eq_true rfl) dX7_become_44 (fun v9 S8 hm => ?_)
      exact hR _ _ _ _ dX7_become_47 hm
    · refine cf_aload_n C dX7_become_15 rfl 0 rfl ?_
      refine cf_iconst C dX7_become_16 (v := 1) rfl ?_
      refine cf_callVi C [.int 1] [] okM_17.1 (ocell_7 okM_17.2.1) rfl q771 q19 (c_X7_error (vL E) (vG E) 1 _ _  hm) q769 q772 q72 md_X7_error (Nat.le_of_ble_eq_true rfl) (Nat.le_of_ble_eq_true rfl) rfl rfl (Nat.le_of_ble_eq_true rfl) dX7_become_17 (fun v11 S10 hm => ?_)
      exact hR _ _ _ _ dX7_become_20 hm

def E_X7_above (x0 : Int32) (S : St) (Q : Int32 → St → Prop) : Prop := if x0 = 4 then (Q 1 S) else (if x0 = 5 then (Q 2 S) else (Q 0 S))
set_option maxRecDepth 20000 in
theorem c_X7_above (l : Launch) (G : GX) (x0 : Int32) (S : St) (Q : Int32 → St → Prop)  (hm : E_X7_above x0 S Q) : CTi l yX7_above (Cond.code yX7_above cX7_above 1 (some .int) :: AW) { frames := 0, cells := 0, slots := 0, locals := 0 } G enM [.int x0] S Q := by
  refine ct_start_i (by decide) enM_nd (Nat.le_of_ble_eq_true rfl) (fun E hG hl C hR => ?_)
  subst hG
  subst hl
  show CF E S 0 [(0, .int x0)] []
  unfold E_X7_above at hm
  refine cf_iload_n C dX7_above_0 rfl 0 rfl ?_
  refine cf_iconst C dX7_above_1 (v := 4) rfl ?_
  refine cf_icmp_ne C (tgt := 9) dX7_above_2 (by decide) hm (fun hm => ?_) (fun hm => ?_)
  · refine cf_iload_n C dX7_above_9 rfl 0 rfl ?_
    refine cf_iconst C dX7_above_10 (v := 5) rfl ?_
    refine cf_icmp_ne C (tgt := 18) dX7_above_11 (by decide) hm (fun hm => ?_) (fun hm => ?_)
    · refine cf_iconst C dX7_above_18 (v := 0) rfl ?_
      exact hR _ _ _ _ dX7_above_19 hm
    · refine cf_iconst C dX7_above_14 (v := 2) rfl ?_
      refine cf_goto C (tgt := 19) dX7_above_15 (by decide) ?_
      exact hR _ _ _ _ dX7_above_19 hm
  · refine cf_iconst C dX7_above_5 (v := 1) rfl ?_
    refine cf_goto C (tgt := 19) dX7_above_6 (by decide) ?_
    exact hR _ _ _ _ dX7_above_19 hm

def L_X7_as_31    (Q : Int32 → St → Prop) : Nat → Int32 → Int32 → Int32 → St → Prop
  | 0 => fun _ _ _ _ => False
  | n + 1 => fun x1 x2 x3 S => if x3 = x2 then (if x3 = x2 then (E_X7_its x1 1 S (fun v12 S11 => Q v12 S11)) else (E_X7_error 5 S (fun v10 S9 => Q v10 S9))) else (if x3 = 0 then (if x3 = x2 then (E_X7_its x1 1 S (fun v16 S15 => Q v16 S15)) else (E_X7_error 5 S (fun v14 S13 => Q v14 S13))) else (E_X7_above x3 S (fun v18 S17 => L_X7_as_31 Q n x1 x2 v18 S17)))
set_option maxRecDepth 20000 in
theorem w_L_X7_as_31 {E : EV} {Q : Int32 → St → Prop}   (C : CX E cX7_as RX7 4 enM 2 43)   (hR : RTi E cX7_as Q) : ∀ (n : Nat) (x1 : Int32) (x2 : Int32) (x3 : Int32) (S : St), L_X7_as_31 Q n x1 x2 x3 S → CF E S 31 [(0, .ref (adr (vG E) 17 0)), (1, .int x1), (2, .int x2), (3, .int x3)] [] := by
  intro n
  induction n with
  | zero =>
    intro x1 x2 x3 S hm
    exact hm.elim
  | succ n ih =>
    intro x1 x2 x3 S hm
    unfold L_X7_as_31 at hm
    refine cf_iload_n C dX7_as_31 rfl 3 rfl ?_
    refine cf_iload_n C dX7_as_32 rfl 2 rfl ?_
    refine cf_icmp_eq C (tgt := 48) dX7_as_33 (by decide) hm (fun hm => ?_) (fun hm => ?_)
    · refine cf_iload_n C dX7_as_48 rfl 3 rfl ?_
      refine cf_iload_n C dX7_as_49 rfl 2 rfl ?_
      refine cf_icmp_ne C (tgt := 62) dX7_as_50 (by decide) hm (fun hm => ?_) (fun hm => ?_)
      · refine cf_aload_n C dX7_as_62 rfl 0 rfl ?_
        refine cf_iconst C dX7_as_63 (v := 5) rfl ?_
        refine cf_callVi C [.int 5] [] okM_17.1 (ocell_7 okM_17.2.1) rfl q771 q19 (c_X7_error (vL E) (vG E) 5 _ _  hm) q769 q772 q72 md_X7_error (Nat.le_of_ble_eq_true rfl) (Nat.le_of_ble_eq_true rfl) rfl rfl (Nat.le_of_ble_eq_true rfl) dX7_as_64 (fun v10 S9 hm => ?_)
        exact hR _ _ _ _ dX7_as_67 hm
      · refine cf_aload_n C dX7_as_53 rfl 0 rfl ?_
        refine cf_iload_n C dX7_as_54 rfl 1 rfl ?_
        refine cf_iconst C dX7_as_55 (v := 1) rfl ?_
        refine cf_callVi C [.int x1, .int 1] [] okM_17.1 (ocell_7 okM_17.2.1) rfl q860 q36 (c_X7_its (vL E) (vG E) x1 1 _ _  hm) q858 q861 q72 md_X7_its (Nat.le_of_ble_eq_true rfl) (Nat.le_of_ble_eq_true rfl) rfl rfl (Nat.le_of_ble_eq_true rfl) dX7_as_56 (fun v12 S11 hm => ?_)
        refine cf_goto C (tgt := 67) dX7_as_59 (by decide) ?_
        exact hR _ _ _ _ dX7_as_67 hm
    · refine cf_iload_n C dX7_as_36 rfl 3 rfl ?_
      refine cf_if_eq C (tgt := 48) dX7_as_37 (by decide) hm (fun hm => ?_) (fun hm => ?_)
      · refine cf_iload_n C dX7_as_48 rfl 3 rfl ?_
        refine cf_iload_n C dX7_as_49 rfl 2 rfl ?_
        refine cf_icmp_ne C (tgt := 62) dX7_as_50 (by decide) hm (fun hm => ?_) (fun hm => ?_)
        · refine cf_aload_n C dX7_as_62 rfl 0 rfl ?_
          refine cf_iconst C dX7_as_63 (v := 5) rfl ?_
          refine cf_callVi C [.int 5] [] okM_17.1 (ocell_7 okM_17.2.1) rfl q771 q19 (c_X7_error (vL E) (vG E) 5 _ _  hm) q769 q772 q72 md_X7_error (Nat.le_of_ble_eq_true rfl) (Nat.le_of_ble_eq_true rfl) rfl rfl (Nat.le_of_ble_eq_true rfl) dX7_as_64 (fun v14 S13 hm => ?_)
          exact hR _ _ _ _ dX7_as_67 hm
        · refine cf_aload_n C dX7_as_53 rfl 0 rfl ?_
          refine cf_iload_n C dX7_as_54 rfl 1 rfl ?_
          refine cf_iconst C dX7_as_55 (v := 1) rfl ?_
          refine cf_callVi C [.int x1, .int 1] [] okM_17.1 (ocell_7 okM_17.2.1) rfl q860 q36 (c_X7_its (vL E) (vG E) x1 1 _ _  hm) q858 q861 q72 md_X7_its (Nat.le_of_ble_eq_true rfl) (Nat.le_of_ble_eq_true rfl) rfl rfl (Nat.le_of_ble_eq_true rfl) dX7_as_56 (fun v16 S15 hm => ?_)
          refine cf_goto C (tgt := 67) dX7_as_59 (by decide) ?_
          exact hR _ _ _ _ dX7_as_67 hm
      · refine cf_iload_n C dX7_as_40 rfl 3 rfl ?_
        refine cf_callSi C [.int x3] [] q907 (c_X7_above (vL E) (vG E) x3 _ _  hm) q906 q908 q72 md_X7_above (Nat.le_of_ble_eq_true rfl) (Nat.le_of_ble_eq_true rfl) rfl rfl (Nat.le_of_ble_eq_true rfl) dX7_as_41 (fun v18 S17 hm => ?_)
        refine cf_istore_n C (L1 := [(3, .int v18), (0, .ref (adr (vG E) 17 0)), (1, .int x1), (2, .int x2)]) dX7_as_44 rfl (by decide) rfl ?_
        refine cf_goto C (tgt := 31) dX7_as_45 (by decide) ?_
        refine cf_sub C [1, 2, 3, 0] rfl ?_
        exact ih x1 x2 v18 _ hm
def E_X7_as (x1 : Int32) (x2 : Int32) (S : St) (Q : Int32 → St → Prop) : Prop := E_X7_isDish x1 S (fun v2 S1 => if v2 = 0 then (E_X7_error 1 S1 (fun v4 S3 => Q v4 S3)) else (E_X7_in x2 0 6 S1 (fun v6 S5 => if v6 = 0 then (E_X7_error 1 S5 (fun v20 S19 => Q v20 S19)) else (E_X7_its x1 0 S5 (fun v8 S7 => ∃ k, L_X7_as_31 Q k x1 x2 v8 S7)))))
set_option maxRecDepth 20000 in
theorem c_X7_as (l : Launch) (G : GX) (x1 : Int32) (x2 : Int32) (S : St) (Q : Int32 → St → Prop)  (hm : E_X7_as x1 x2 S Q) : CTi l yX7_as (Cond.code yX7_as cX7_as 4 (some .int) :: AW) { frames := 2, cells := 0, slots := 0, locals := 43 } G enM [.ref (adr G 17 0), .int x1, .int x2] S Q := by
  refine ct_start_i (by decide) enM_nd (Nat.le_of_ble_eq_true rfl) (fun E hG hl C hR => ?_)
  subst hG
  subst hl
  show CF E S 0 [(0, .ref (adr (vG E) 17 0)), (1, .int x1), (2, .int x2)] []
  unfold E_X7_as at hm
  refine cf_aload_n C dX7_as_0 rfl 0 rfl ?_
  refine cf_iload_n C dX7_as_1 rfl 1 rfl ?_
  refine cf_callVi C [.int x1] [] okM_17.1 (ocell_7 okM_17.2.1) rfl q848 q33 (c_X7_isDish (vL E) (vG E) x1 _ _  hm) q846 q849 q72 md_X7_isDish (Nat.le_of_ble_eq_true rfl) (Nat.le_of_ble_eq_true rfl) rfl rfl (Nat.le_of_ble_eq_true rfl) dX7_as_2 (fun v2 S1 hm => ?_)
  refine cf_if_eq C (tgt := 18) dX7_as_5 (by decide) hm (fun hm => ?_) (fun hm => ?_)
  · refine cf_aload_n C dX7_as_18 rfl 0 rfl ?_
    refine cf_iconst C dX7_as_19 (v := 1) rfl ?_
    refine cf_callVi C [.int 1] [] okM_17.1 (ocell_7 okM_17.2.1) rfl q771 q19 (c_X7_error (vL E) (vG E) 1 _ _  hm) q769 q772 q72 md_X7_error (Nat.le_of_ble_eq_true rfl) (Nat.le_of_ble_eq_true rfl) rfl rfl (Nat.le_of_ble_eq_true rfl) dX7_as_20 (fun v4 S3 hm => ?_)
    exact hR _ _ _ _ dX7_as_23 hm
  · refine cf_iload_n C dX7_as_8 rfl 2 rfl ?_
    refine cf_iconst C dX7_as_9 (v := 0) rfl ?_
    refine cf_bipush C dX7_as_10 (v := 6) rfl ?_
    refine cf_callSi C [.int x2, .int 0, .int 6] [] q767 (c_X7_in (vL E) (vG E) x2 0 6 _ _  hm) q766 q768 q72 md_X7_in (Nat.le_of_ble_eq_true rfl) (Nat.le_of_ble_eq_true rfl) rfl rfl (Nat.le_of_ble_eq_true rfl) dX7_as_12 (fun v6 S5 hm => ?_)
    refine cf_if_ne C (tgt := 24) dX7_as_15 (by decide) hm (fun hm => ?_) (fun hm => ?_)
    · refine cf_aload_n C dX7_as_24 rfl 0 rfl ?_
      refine cf_iload_n C dX7_as_25 rfl 1 rfl ?_
      refine cf_iconst C dX7_as_26 (v := 0) rfl ?_
      refine cf_callVi C [.int x1, .int 0] [] okM_17.1 (ocell_7 okM_17.2.1) rfl q860 q36 (c_X7_its (vL E) (vG E) x1 0 _ _  hm) q858 q861 q72 md_X7_its (Nat.le_of_ble_eq_true rfl) (Nat.le_of_ble_eq_true rfl) rfl rfl (Nat.le_of_ble_eq_true rfl) dX7_as_27 (fun v8 S7 hm => ?_)
      refine cf_istore_n C (L1 := [(3, .int v8), (0, .ref (adr (vG E) 17 0)), (1, .int x1), (2, .int x2)]) dX7_as_30 rfl (by decide) rfl ?_
      refine cf_sub C [1, 2, 3, 0] rfl ?_
      obtain ⟨k, hm⟩ := hm
      exact w_L_X7_as_31 C hR k x1 x2 v8 _ hm
    · refine cf_aload_n C dX7_as_18 rfl 0 rfl ?_
      refine cf_iconst C dX7_as_19 (v := 1) rfl ?_
      refine cf_callVi C [.int 1] [] okM_17.1 (ocell_7 okM_17.2.1) rfl q771 q19 (c_X7_error (vL E) (vG E) 1 _ _  hm) q769 q772 q72 md_X7_error (Nat.le_of_ble_eq_true rfl) (Nat.le_of_ble_eq_true rfl) rfl rfl (Nat.le_of_ble_eq_true rfl) dX7_as_20 (fun v20 S19 hm => ?_)
      exact hR _ _ _ _ dX7_as_23 hm

def E_X7_serve (x1 : Int32) (x2 : Int32) (S : St) (Q : Int32 → St → Prop) : Prop := E_X7_isDish x1 S (fun v2 S1 => if v2 = 0 then (E_X7_error 1 S1 (fun v4 S3 => Q v4 S3)) else (E_X7_in x2 0 99 S1 (fun v6 S5 => if v6 = 0 then (E_X7_error 1 S5 (fun v8 S7 => Q v8 S7)) else (E_X7_change1 ((8 + (5 * x1)) + 2) x2 S5 (fun v10 S9 => Q v10 S9)))))
set_option maxRecDepth 20000 in
theorem c_X7_serve (l : Launch) (G : GX) (x1 : Int32) (x2 : Int32) (S : St) (Q : Int32 → St → Prop)  (hm : E_X7_serve x1 x2 S Q) : CTi l yX7_serve (Cond.code yX7_serve cX7_serve 3 (some .int) :: AW) { frames := 2, cells := 0, slots := 0, locals := 43 } G enM [.ref (adr G 17 0), .int x1, .int x2] S Q := by
  refine ct_start_i (by decide) enM_nd (Nat.le_of_ble_eq_true rfl) (fun E hG hl C hR => ?_)
  subst hG
  subst hl
  show CF E S 0 [(0, .ref (adr (vG E) 17 0)), (1, .int x1), (2, .int x2)] []
  unfold E_X7_serve at hm
  refine cf_aload_n C dX7_serve_0 rfl 0 rfl ?_
  refine cf_iload_n C dX7_serve_1 rfl 1 rfl ?_
  refine cf_callVi C [.int x1] [] okM_17.1 (ocell_7 okM_17.2.1) rfl q848 q33 (c_X7_isDish (vL E) (vG E) x1 _ _  hm) q846 q849 q72 md_X7_isDish (Nat.le_of_ble_eq_true rfl) (Nat.le_of_ble_eq_true rfl) rfl rfl (Nat.le_of_ble_eq_true rfl) dX7_serve_2 (fun v2 S1 hm => ?_)
  refine cf_if_eq C (tgt := 34) dX7_serve_5 (by decide) hm (fun hm => ?_) (fun hm => ?_)
  · refine cf_aload_n C dX7_serve_34 rfl 0 rfl ?_
    refine cf_iconst C dX7_serve_35 (v := 1) rfl ?_
    refine cf_callVi C [.int 1] [] okM_17.1 (ocell_7 okM_17.2.1) rfl q771 q19 (c_X7_error (vL E) (vG E) 1 _ _  hm) q769 q772 q72 md_X7_error (Nat.le_of_ble_eq_true rfl) (Nat.le_of_ble_eq_true rfl) rfl rfl (Nat.le_of_ble_eq_true rfl) dX7_serve_36 (fun v4 S3 hm => ?_)
    exact hR _ _ _ _ dX7_serve_39 hm
  · refine cf_iload_n C dX7_serve_8 rfl 2 rfl ?_
    refine cf_iconst C dX7_serve_9 (v := 0) rfl ?_
    refine cf_bipush C dX7_serve_10 (v := 99) rfl ?_
    refine cf_callSi C [.int x2, .int 0, .int 99] [] q767 (c_X7_in (vL E) (vG E) x2 0 99 _ _  hm) q766 q768 q72 md_X7_in (Nat.le_of_ble_eq_true rfl) (Nat.le_of_ble_eq_true rfl) rfl rfl (Nat.le_of_ble_eq_true rfl) dX7_serve_12 (fun v6 S5 hm => ?_)
    refine cf_if_eq C (tgt := 34) dX7_serve_15 (by decide) hm (fun hm => ?_) (fun hm => ?_)
    · refine cf_aload_n C dX7_serve_34 rfl 0 rfl ?_
      refine cf_iconst C dX7_serve_35 (v := 1) rfl ?_
      refine cf_callVi C [.int 1] [] okM_17.1 (ocell_7 okM_17.2.1) rfl q771 q19 (c_X7_error (vL E) (vG E) 1 _ _  hm) q769 q772 q72 md_X7_error (Nat.le_of_ble_eq_true rfl) (Nat.le_of_ble_eq_true rfl) rfl rfl (Nat.le_of_ble_eq_true rfl) dX7_serve_36 (fun v8 S7 hm => ?_)
      exact hR _ _ _ _ dX7_serve_39 hm
    · refine cf_aload_n C dX7_serve_18 rfl 0 rfl ?_
      refine cf_bipush C dX7_serve_19 (v := 8) rfl ?_
      refine cf_iconst C dX7_serve_21 (v := 5) rfl ?_
      refine cf_iload_n C dX7_serve_22 rfl 1 rfl ?_
      refine cf_imul C dX7_serve_23 ?_
      refine cf_iadd C dX7_serve_24 ?_
      refine cf_iconst C dX7_serve_25 (v := 2) rfl ?_
      refine cf_iadd C dX7_serve_26 ?_
      refine cf_iload_n C dX7_serve_27 rfl 2 rfl ?_
      refine cf_callVi C [.int ((8 + (5 * x1)) + 2), .int x2] [] okM_17.1 (ocell_7 okM_17.2.1) rfl q900 q43 (c_X7_change1 (vL E) (vG E) ((8 + (5 * x1)) + 2) x2 _ _  hm) q898 q901 q72 md_X7_change1 (Nat.le_of_ble_eq_true rfl) (Nat.le_of_ble_eq_true rfl) rfl rfl (Nat.le_of_ble_eq_true rfl) dX7_serve_28 (fun v10 S9 hm => ?_)
      refine cf_goto C (tgt := 39) dX7_serve_31 (by decide) ?_
      exact hR _ _ _ _ dX7_serve_39 hm

def E_X7_season (x1 : Int32) (x2 : Int32) (S : St) (Q : Int32 → St → Prop) : Prop := E_X7_isDish x1 S (fun v2 S1 => if v2 = 0 then (E_X7_error 1 S1 (fun v4 S3 => Q v4 S3)) else (E_X7_in x2 0 9 S1 (fun v6 S5 => if v6 = 0 then (E_X7_error 1 S5 (fun v8 S7 => Q v8 S7)) else (E_X7_change1 ((8 + (5 * x1)) + 4) x2 S5 (fun v10 S9 => Q v10 S9)))))
set_option maxRecDepth 20000 in
theorem c_X7_season (l : Launch) (G : GX) (x1 : Int32) (x2 : Int32) (S : St) (Q : Int32 → St → Prop)  (hm : E_X7_season x1 x2 S Q) : CTi l yX7_season (Cond.code yX7_season cX7_season 3 (some .int) :: AW) { frames := 2, cells := 0, slots := 0, locals := 43 } G enM [.ref (adr G 17 0), .int x1, .int x2] S Q := by
  refine ct_start_i (by decide) enM_nd (Nat.le_of_ble_eq_true rfl) (fun E hG hl C hR => ?_)
  subst hG
  subst hl
  show CF E S 0 [(0, .ref (adr (vG E) 17 0)), (1, .int x1), (2, .int x2)] []
  unfold E_X7_season at hm
  refine cf_aload_n C dX7_season_0 rfl 0 rfl ?_
  refine cf_iload_n C dX7_season_1 rfl 1 rfl ?_
  refine cf_callVi C [.int x1] [] okM_17.1 (ocell_7 okM_17.2.1) rfl q848 q33 (c_X7_isDish (vL E) (vG E) x1 _ _  hm) q846 q849 q72 md_X7_isDish (Nat.le_of_ble_eq_true rfl) (Nat.le_of_ble_eq_true rfl) rfl rfl (Nat.le_of_ble_eq_true rfl) dX7_season_2 (fun v2 S1 hm => ?_)
  refine cf_if_eq C (tgt := 34) dX7_season_5 (by decide) hm (fun hm => ?_) (fun hm => ?_)
  · refine cf_aload_n C dX7_season_34 rfl 0 rfl ?_
    refine cf_iconst C dX7_season_35 (v := 1) rfl ?_
    refine cf_callVi C [.int 1] [] okM_17.1 (ocell_7 okM_17.2.1) rfl q771 q19 (c_X7_error (vL E) (vG E) 1 _ _  hm) q769 q772 q72 md_X7_error (Nat.le_of_ble_eq_true rfl) (Nat.le_of_ble_eq_true rfl) rfl rfl (Nat.le_of_ble_eq_true rfl) dX7_season_36 (fun v4 S3 hm => ?_)
    exact hR _ _ _ _ dX7_season_39 hm
  · refine cf_iload_n C dX7_season_8 rfl 2 rfl ?_
    refine cf_iconst C dX7_season_9 (v := 0) rfl ?_
    refine cf_bipush C dX7_season_10 (v := 9) rfl ?_
    refine cf_callSi C [.int x2, .int 0, .int 9] [] q767 (c_X7_in (vL E) (vG E) x2 0 9 _ _  hm) q766 q768 q72 md_X7_in (Nat.le_of_ble_eq_true rfl) (Nat.le_of_ble_eq_true rfl) rfl rfl (Nat.le_of_ble_eq_true rfl) dX7_season_12 (fun v6 S5 hm => ?_)
    refine cf_if_eq C (tgt := 34) dX7_season_15 (by decide) hm (fun hm => ?_) (fun hm => ?_)
    · refine cf_aload_n C dX7_season_34 rfl 0 rfl ?_
      refine cf_iconst C dX7_season_35 (v := 1) rfl ?_
      refine cf_callVi C [.int 1] [] okM_17.1 (ocell_7 okM_17.2.1) rfl q771 q19 (c_X7_error (vL E) (vG E) 1 _ _  hm) q769 q772 q72 md_X7_error (Nat.le_of_ble_eq_true rfl) (Nat.le_of_ble_eq_true rfl) rfl rfl (Nat.le_of_ble_eq_true rfl) dX7_season_36 (fun v8 S7 hm => ?_)
      exact hR _ _ _ _ dX7_season_39 hm
    · refine cf_aload_n C dX7_season_18 rfl 0 rfl ?_
      refine cf_bipush C dX7_season_19 (v := 8) rfl ?_
      refine cf_iconst C dX7_season_21 (v := 5) rfl ?_
      refine cf_iload_n C dX7_season_22 rfl 1 rfl ?_
      refine cf_imul C dX7_season_23 ?_
      refine cf_iadd C dX7_season_24 ?_
      refine cf_iconst C dX7_season_25 (v := 4) rfl ?_
      refine cf_iadd C dX7_season_26 ?_
      refine cf_iload_n C dX7_season_27 rfl 2 rfl ?_
      refine cf_callVi C [.int ((8 + (5 * x1)) + 4), .int x2] [] okM_17.1 (ocell_7 okM_17.2.1) rfl q900 q43 (c_X7_change1 (vL E) (vG E) ((8 + (5 * x1)) + 4) x2 _ _  hm) q898 q901 q72 md_X7_change1 (Nat.le_of_ble_eq_true rfl) (Nat.le_of_ble_eq_true rfl) rfl rfl (Nat.le_of_ble_eq_true rfl) dX7_season_28 (fun v10 S9 hm => ?_)
      refine cf_goto C (tgt := 39) dX7_season_31 (by decide) ?_
      exact hR _ _ _ _ dX7_season_39 hm

def E_X7_rules  (S : St) (Q : Int32 → St → Prop) : Prop := E_X7_findRuler S (fun v2 S1 => if v2 = (-1) then (E_X7_error 2 S1 (fun v4 S3 => Q v4 S3)) else (Q v2 S1))
set_option maxRecDepth 20000 in
theorem c_X7_rules (l : Launch) (G : GX)  (S : St) (Q : Int32 → St → Prop)  (hm : E_X7_rules  S Q) : CTi l yX7_rules (Cond.code yX7_rules cX7_rules 2 (some .int) :: AW) { frames := 5, cells := 0, slots := 0, locals := 114 } G enM [.ref (adr G 17 0)] S Q := by
  refine ct_start_i (by decide) enM_nd (Nat.le_of_ble_eq_true rfl) (fun E hG hl C hR => ?_)
  subst hG
  subst hl
  show CF E S 0 [(0, .ref (adr (vG E) 17 0))] []
  unfold E_X7_rules at hm
  refine cf_aload_n C dX7_rules_0 rfl 0 rfl ?_
  refine cf_callVi C [] [] okM_17.1 (ocell_7 okM_17.2.1) rfl q882 q40 (c_X7_findRuler (vL E) (vG E)  _ _  hm) q880 q883 q72 md_X7_findRuler (Nat.le_of_ble_eq_true rfl) (Nat.le_of_ble_eq_true rfl) rfl rfl (Nat.le_of_ble_eq_true rfl) dX7_rules_1 (fun v2 S1 hm => ?_)
  refine cf_istore_n C (L1 := [(1, .int v2), (0, .ref (adr (vG E) 17 0))]) dX7_rules_4 rfl (by decide) rfl ?_
  refine cf_iload_n C dX7_rules_5 rfl 0 rfl ?_
  refine cf_iconst C dX7_rules_6 (v := (-1)) rfl ?_
  refine cf_icmp_ne C (tgt := 18) dX7_rules_7 (by decide) hm (fun hm => ?_) (fun hm => ?_)
  · refine cf_iload_n C dX7_rules_18 rfl 0 rfl ?_
    exact hR _ _ _ _ dX7_rules_19 hm
  · refine cf_aload_n C dX7_rules_10 rfl 1 rfl ?_
    refine cf_iconst C dX7_rules_11 (v := 2) rfl ?_
    refine cf_callVi C [.int 2] [] okM_17.1 (ocell_7 okM_17.2.1) rfl q771 q19 (c_X7_error (vL E) (vG E) 2 _ _  hm) q769 q772 q72 md_X7_error (Nat.le_of_ble_eq_true rfl) (Nat.le_of_ble_eq_true rfl) rfl rfl (Nat.le_of_ble_eq_true rfl) dX7_rules_12 (fun v4 S3 hm => ?_)
    refine cf_goto C (tgt := 19) dX7_rules_15 (by decide) ?_
    exact hR _ _ _ _ dX7_rules_19 hm

def E_X7_law (x1 : Int32) (x2 : Int32) (x3 : Int32) (x4 : Int32) (S : St) (Q : Int32 → St → Prop) : Prop := E_X7_in x1 0 1 S (fun v2 S1 => if v2 = 0 then (E_X7_error 1 S1 (fun v8 S7 => Q v8 S7)) else (if x1 = 0 then (E_X7_claimTold x2 x3 x4 S1 (fun v6 S5 => Q v6 S5)) else (E_X7_keepingTold x2 x3 x4 S1 (fun v4 S3 => Q v4 S3))))
set_option maxRecDepth 20000 in
theorem c_X7_law (l : Launch) (G : GX) (x1 : Int32) (x2 : Int32) (x3 : Int32) (x4 : Int32) (S : St) (Q : Int32 → St → Prop)  (hm : E_X7_law x1 x2 x3 x4 S Q) : CTi l yX7_law (Cond.code yX7_law cX7_law 5 (some .int) :: AW) { frames := 3, cells := 0, slots := 0, locals := 73 } G enM [.ref (adr G 17 0), .int x1, .int x2, .int x3, .int x4] S Q := by
  refine ct_start_i (by decide) enM_nd (Nat.le_of_ble_eq_true rfl) (fun E hG hl C hR => ?_)
  subst hG
  subst hl
  show CF E S 0 [(0, .ref (adr (vG E) 17 0)), (1, .int x1), (2, .int x2), (3, .int x3), (4, .int x4)] []
  unfold E_X7_law at hm
  refine cf_iload_n C dX7_law_0 rfl 1 rfl ?_
  refine cf_iconst C dX7_law_1 (v := 0) rfl ?_
  refine cf_iconst C dX7_law_2 (v := 1) rfl ?_
  refine cf_callSi C [.int x1, .int 0, .int 1] [] q767 (c_X7_in (vL E) (vG E) x1 0 1 _ _  hm) q766 q768 q72 md_X7_in (Nat.le_of_ble_eq_true rfl) (Nat.le_of_ble_eq_true rfl) rfl rfl (Nat.le_of_ble_eq_true rfl) dX7_law_3 (fun v2 S1 hm => ?_)
  refine cf_if_ne C (tgt := 15) dX7_law_6 (by decide) hm (fun hm => ?_) (fun hm => ?_)
  · refine cf_iload_n C dX7_law_15 rfl 1 rfl ?_
    refine cf_if_ne C (tgt := 30) dX7_law_16 (by decide) hm (fun hm => ?_) (fun hm => ?_)
    · refine cf_aload_n C dX7_law_30 rfl 0 rfl ?_
      refine cf_iload_n C dX7_law_31 rfl 2 rfl ?_
      refine cf_iload_n C dX7_law_32 rfl 3 rfl ?_
      refine cf_iload C dX7_law_33 4 rfl ?_
      refine cf_callVi C [.int x2, .int x3, .int x4] [] okM_17.1 (ocell_7 okM_17.2.1) rfl q890 q42 (c_X7_keepingTold (vL E) (vG E) x2 x3 x4 _ _  hm) q888 q891 q72 md_X7_keepingTold (Nat.le_of_ble_eq_true rfl) (Nat.le_of_ble_eq_true rfl) rfl rfl (Nat.le_of_ble_eq_true rfl) dX7_law_35 (fun v4 S3 hm => ?_)
      exact hR _ _ _ _ dX7_law_38 hm
    · refine cf_aload_n C dX7_law_19 rfl 0 rfl ?_
      refine cf_iload_n C dX7_law_20 rfl 2 rfl ?_
      refine cf_iload_n C dX7_law_21 rfl 3 rfl ?_
      refine cf_iload C dX7_law_22 4 rfl ?_
      refine cf_callVi C [.int x2, .int x3, .int x4] [] okM_17.1 (ocell_7 okM_17.2.1) rfl q864 q37 (c_X7_claimTold (vL E) (vG E) x2 x3 x4 _ _  hm) q862 q865 q72 md_X7_claimTold (Nat.le_of_ble_eq_true rfl) (Nat.le_of_ble_eq_true rfl) rfl rfl (Nat.le_of_ble_eq_true rfl) dX7_law_24 (fun v6 S5 hm => ?_)
      refine cf_goto C (tgt := 38) dX7_law_27 (by decide) ?_
      exact hR _ _ _ _ dX7_law_38 hm
  · refine cf_aload_n C dX7_law_9 rfl 0 rfl ?_
    refine cf_iconst C dX7_law_10 (v := 1) rfl ?_
    refine cf_callVi C [.int 1] [] okM_17.1 (ocell_7 okM_17.2.1) rfl q771 q19 (c_X7_error (vL E) (vG E) 1 _ _  hm) q769 q772 q72 md_X7_error (Nat.le_of_ble_eq_true rfl) (Nat.le_of_ble_eq_true rfl) rfl rfl (Nat.le_of_ble_eq_true rfl) dX7_law_11 (fun v8 S7 hm => ?_)
    exact hR _ _ _ _ dX7_law_14 hm

def E_X7_isHunger (x0 : Int32) (S : St) (Q : Int32 → St → Prop) : Prop := E_X7_in x0 0 99 S (fun v2 S1 => (v2 = 0 ∨ v2 = 1) ∧ (Q v2 S1))
set_option maxRecDepth 20000 in
theorem c_X7_isHunger (l : Launch) (G : GX) (x0 : Int32) (S : St) (Q : Int32 → St → Prop)  (hm : E_X7_isHunger x0 S Q) : CTi l yX7_isHunger (Cond.code yX7_isHunger cX7_isHunger 1 (some .boolean) :: AW) { frames := 1, cells := 0, slots := 0, locals := 22 } G enM [.int x0] S Q := by
  refine ct_start_z (by decide) enM_nd (Nat.le_of_ble_eq_true rfl) (fun E hG hl C hR => ?_)
  subst hG
  subst hl
  show CF E S 0 [(0, .int x0)] []
  unfold E_X7_isHunger at hm
  refine cf_iload_n C dX7_isHunger_0 rfl 0 rfl ?_
  refine cf_iconst C dX7_isHunger_1 (v := 0) rfl ?_
  refine cf_bipush C dX7_isHunger_2 (v := 99) rfl ?_
  refine cf_callSi C [.int x0, .int 0, .int 99] [] q767 (c_X7_in (vL E) (vG E) x0 0 99 _ _  hm) q766 q768 q72 md_X7_in (Nat.le_of_ble_eq_true rfl) (Nat.le_of_ble_eq_true rfl) rfl rfl (Nat.le_of_ble_eq_true rfl) dX7_isHunger_4 (fun v2 S1 hm => ?_)
  exact hR _ _ _ _ dX7_isHunger_7 hm.1 hm.2
