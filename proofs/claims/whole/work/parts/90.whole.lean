/-! THE LAW FROM ITS ENTRY -/
theorem st_all {s : State} {b : Nat} (hts : ∀ w ∈ lw_tbl, w.before #[Value.ref b] s = true) (hgv : (Jvm.Cond.and given_1 narrow_1).before #[Value.ref b] s = true) : ∃ t : Nat × Nat × Nat, ∀ G : GX, G.2.2.2 = t → sts G (lA s) s s.heap := by
  have hs := flat_of_before _ hgv
  have hA : ∀ a : Nat, a < s.heap.size → ¬ lA s a := fun a h => Nat.not_le.mpr h
  have eABOVE : ∀ j, j < 7 → Cond.eq (.elem (.static "LeftoverRule" "ABOVE" "[I") (.int (Int32.ofNat j))) (.int (sABV j)) ∈ flatC (Jvm.Cond.and given_1 narrow_1) := by decide +kernel
  obtain ⟨tABOVE, hABOVE, TABOVE⟩ := va_Tof (tm := (.static "LeftoverRule" "ABOVE" "[I")) (ty := .int) (N := 7) (f := fun j => .int (sABV j)) (A := lA s) (by decide) (hs (.arrayOf (.static "LeftoverRule" "ABOVE" "[I") .int) (by decide +kernel)) (va_eqt (hs (.eq (.length (.static "LeftoverRule" "ABOVE" "[I")) (.int 7)) (by decide +kernel))) (fun j hj => va_eqt (hs _ (eABOVE j hj))) hA
  have zABOVE := va_Zof (hts (.laysStatic "LeftoverRule" "ABOVE" "[I") (List.mem_of_getElem? (i := 383) (by decide +kernel))) (hts _ (aw_tbl q65)) hABOVE hA
  have eBODIES : ∀ j, j < 28 → Cond.eq (.elem (.static "LeftoverRule" "BODIES" "[I") (.int (Int32.ofNat j))) (.int (sBOD j)) ∈ flatC (Jvm.Cond.and given_1 narrow_1) := by decide +kernel
  obtain ⟨tBODIES, hBODIES, TBODIES⟩ := va_Tof (tm := (.static "LeftoverRule" "BODIES" "[I")) (ty := .int) (N := 28) (f := fun j => .int (sBOD j)) (A := lA s) (by decide) (hs (.arrayOf (.static "LeftoverRule" "BODIES" "[I") .int) (by decide +kernel)) (va_eqt (hs (.eq (.length (.static "LeftoverRule" "BODIES" "[I")) (.int 28)) (by decide +kernel))) (fun j hj => va_eqt (hs _ (eBODIES j hj))) hA
  have zBODIES := va_Zof (hts (.laysStatic "LeftoverRule" "BODIES" "[I") (List.mem_of_getElem? (i := 606) (by decide +kernel))) (hts _ (aw_tbl q65)) hBODIES hA
  have eNAMES : ∀ j, j < 6 → Cond.eq (.elem (.static "LeftoverRule" "NAMES" "[C") (.int (Int32.ofNat j))) (.int (sNAM j)) ∈ flatC (Jvm.Cond.and given_1 narrow_1) := by decide +kernel
  obtain ⟨tNAMES, hNAMES, TNAMES⟩ := va_Tof (tm := (.static "LeftoverRule" "NAMES" "[C")) (ty := .char) (N := 6) (f := fun j => .int (sNAM j)) (A := lA s) (by decide) (hs (.arrayOf (.static "LeftoverRule" "NAMES" "[C") .char) (by decide +kernel)) (va_eqt (hs (.eq (.length (.static "LeftoverRule" "NAMES" "[C")) (.int 6)) (by decide +kernel))) (fun j hj => va_eqt (hs _ (eNAMES j hj))) hA
  have zNAMES := va_Zof (hts (.laysStatic "LeftoverRule" "NAMES" "[C") (List.mem_of_getElem? (i := 436) (by decide +kernel))) (hts _ (aw_tbl q65)) hNAMES hA
  refine ⟨(tABOVE, tBODIES, tNAMES), fun G hG => ?_⟩
  obtain ⟨D, a, cs, t0, t1, t2⟩ := G
  cases hG
  exact ⟨⟨zABOVE, TABOVE⟩, ⟨zBODIES, TBODIES⟩, ⟨zNAMES, TNAMES⟩⟩
theorem nst_all {s : State} {b : Nat} (hts : ∀ w ∈ lw_tbl, w.before #[Value.ref b] s = true) : nst s :=
  ⟨va_Nw.of rfl (hts _ (List.mem_of_getElem? (i := 435) (by decide +kernel))), va_Nw.of rfl (hts _ (List.mem_of_getElem? (i := 605) (by decide +kernel))), va_Nw.of rfl (hts _ (List.mem_of_getElem? (i := 607) (by decide +kernel)))⟩
theorem nsm_all {s : State} {b : Nat} (hts : ∀ w ∈ lw_tbl, w.before #[Value.ref b] s = true) : nsm s :=
  ⟨va_Nw.of rfl (hts _ (List.mem_of_getElem? (i := 86) (by decide +kernel))), va_Nw.of rfl (hts _ (List.mem_of_getElem? (i := 202) (by decide +kernel))), va_Nw.of rfl (hts _ (List.mem_of_getElem? (i := 230) (by decide +kernel))), va_Nw.of rfl (hts _ (List.mem_of_getElem? (i := 259) (by decide +kernel))), va_AO.of (hts _ (List.mem_of_getElem? (i := 257) (by decide +kernel)))⟩
set_option maxRecDepth 100000 in
set_option maxHeartbeats 4000000 in
theorem start_world (D : va_G) (cI cZ cS : ClassId) (t0 t1 t2 q0 q1 : Nat) (u v : Nat → Nat) {A : Nat → Prop} {H : Heap} (hP : va_P D vwCl (([] ++ wClass cI cS q0 u) ++ wModel cI cZ q1 v) H) (hD : va_D A (([] ++ wClass cI cS q0 u) ++ wModel cI cZ q1 v)) : va_P D vwCl (wld (mkG D cI cZ cS t0 t1 t2 q0 q1 u v) enC S0C ++ wld (mkG D cI cZ cS t0 t1 t2 q0 q1 u v) enM S0M) H ∧ va_D A (wld (mkG D cI cZ cS t0 t1 t2 q0 q1 u v) enC S0C ++ wld (mkG D cI cZ cS t0 t1 t2 q0 q1 u v) enM S0M) := by
  rw [List.nil_append] at hP hD
  have hP2 := va_P_app.mp hP
  have hPc := va_P_q (g := fun i => some (adr (mkG D cI cZ cS t0 t1 t2 q0 q1 u v) (13 + i) 0)) hP2.1 1 (a := u 46) (cA := cS) (n := 4) (f := fun j => some (u (48 + 2 * j))) rfl (fun j hj => by rcases (show j = 0 ∨ j = 1 ∨ j = 2 ∨ j = 3 by omega) with rfl | rfl | rfl | rfl <;> rfl)
  have hD1 := va_D.set (a := u 46) (e0 := .inl (cS, (4, .inr (.inr (.inr (.inr (fun j => some (u (48 + 2 * j)))))))) ) (e := .inl (cS, (4, .inr (.inr (.inr (.inr (fun i => some (adr (mkG D cI cZ cS t0 t1 t2 q0 q1 u v) (13 + i) 0)))))))) hD (p := 1) rfl
  rw [List.set_append_left _ _ (by simp [wClass])] at hD1
  rw [cls_eq D cI cZ cS t0 t1 t2 q0 q1 u v] at hPc hD1
  have hPm := hP2.2
  rw [mod_eq D cI cZ cS t0 t1 t2 q0 q1 u v] at hPm hD1
  exact va_perm ((ordC_perm.map _).append_right _) (va_P_app.mpr ⟨hPc, hPm⟩) hD1
set_option maxRecDepth 100000 in
set_option maxHeartbeats 4000000 in
/-- from the entry, for every script of at most 3072 ints, the law comes to its end with true -/
theorem whole_start {p : Program} {e : Env} {s : State} {m : MethodId} {below : List Frame} {meth : Method} {c : Code} (l : Launch) (hflags : l.flags = flags0) {b L : Nat} {xs : Nat → Int32} (hL : L ≤ 3072) (C0 : lw_At p s m meth c b L xs) : W p l e room_1 s m #[Value.ref b] below meth c s.heap [] 0 0 (lw_Z below #[Value.ref b] s) (entryFrame m ([Value.ref b] : List Value).toArray 4) := by
  obtain ⟨hx, hb, hr, hml, hown, hts, hX, hbl, hlocks, hgv⟩ := id C0
  have htA : ∀ w ∈ AW, w.before #[Value.ref b] s = true := fun w hw => hts w (aw_tbl hw)
  have hA : ∀ q : Nat, s.heap.size ≤ q → lA s q := fun _ h => h
  obtain ⟨c0, i0, k0⟩ := u_known (C := RX0) (T := TX0) (N := 8) (n := 8) htA inX0 (htA _ q85)
  obtain ⟨c1, i1, k1⟩ := u_known (C := RX1) (T := TX1) (N := 5) (n := 5) htA inX1 (htA _ q91)
  obtain ⟨c2, i2, k2⟩ := u_known (C := RX2) (T := TX2) (N := 6) (n := 6) htA inX2 (htA _ q201)
  obtain ⟨c3, i3, k3⟩ := u_known (C := RX3) (T := TX3) (N := 3) (n := 3) htA inX3 (htA _ q258)
  obtain ⟨c4, i4, k4⟩ := u_known (C := RX4) (T := TX4) (N := 11) (n := 11) htA inX4 (htA _ q114)
  obtain ⟨c5, i5, k5⟩ := u_known (C := RX5) (T := TX5) (N := 6) (n := 6) htA inX5 (htA _ q229)
  obtain ⟨c6, i6, k6⟩ := u_known (C := RX6) (T := TX6) (N := 9) (n := 9) htA inX6 (htA _ q77)
  obtain ⟨c7, i7, k7⟩ := u_known (C := RX7) (T := TX7) (N := 22) (n := 22) htA inX7 (htA _ q689)
  obtain ⟨D, hKc⟩ : ∃ D : va_G, ∀ (k : Nat) (q : vw_C), vwCl[k]? = some q → u_Kn s q.1 q.2.1 q.2.2 (D.1 k) (D.2 k) := by
    refine ⟨(fun k => if k = 0 then c0 else if k = 1 then c1 else if k = 2 then c2 else if k = 3 then c3 else if k = 4 then c4 else if k = 5 then c5 else if k = 6 then c6 else c7, fun k => if k = 0 then i0 else if k = 1 then i1 else if k = 2 then i2 else if k = 3 then i3 else if k = 4 then i4 else if k = 5 then i5 else if k = 6 then i6 else i7), ?_⟩
    intro k q hq
    match k, hq with
    | 0, hq => cases hq; exact k0
    | 1, hq => cases hq; exact k1
    | 2, hq => cases hq; exact k2
    | 3, hq => cases hq; exact k3
    | 4, hq => cases hq; exact k4
    | 5, hq => cases hq; exact k5
    | 6, hq => cases hq; exact k6
    | 7, hq => cases hq; exact k7
    | k + 8, hq => simp [vwCl] at hq
  obtain ⟨cI, hcI⟩ : ∃ cI : ClassId, ArrOfT s cI .int ∧ va_RA s cI .int := by
    obtain ⟨cA, kA, comp, h1, h2, h3⟩ := Cond.arrayClass_spec (htA _ q112)
    exact ⟨cA, fun n z => ⟨fun k h => (by cases h), kA, h2, comp, h3⟩, h1⟩
  have hK : va_K D vwCl [(cI, .int)] s := by
    refine ⟨hKc, fun k q h => ?_⟩
    match k, h with
    | 0, h => cases h; exact hcI
    | k + 1, h => simp at h
  have hS : va_S (lA s) s.heap s.heap [] := va_S.rf
  have hP : va_P D vwCl [] s.heap := fun k q h => by simp at h
  have hD : va_D (lA s) [] := ⟨fun i j p q h => by simp at h, fun k q h => by simp at h⟩
  have hl := lv_entry ([.ref b]) (n := 4) (Nat.le_of_ble_eq_true rfl)
  rw [lg_entry_eq]
  generalize (lg_sl ([.ref b]) ++ List.replicate (4 - (lg_sl ([.ref b])).length) Slot.unset).toArray = ls at hl ⊢
  have hl : lv_has ls 4 [(0, .ref b)] := hl
  have SX : CallFix p m c code 4 s _ AW RL := ⟨hx, hb, hml, hown, htA⟩
  have hN := nsm_all hts
  refine va_new (ci := 6) (fs := [.null, .null, .null, .null, .null, .null, .null, .null, .int 0]) (C := RX6) (T := TX6) (N := 9) hx hb htA inX6 tyX6 tyX6_ok hown (htA _ q76) (htA _ q77) (htA _ q65) hK hP hD hS hA rfl (fun j hj => by revert j; decide +kernel) (Nat.le_of_ble_eq_true rfl) (Nat.le_of_ble_eq_true rfl) dL_law_0 (fun q0 H hP hD hS => ?_)
  refine lv_dup hx hb dL_law_3 rfl ?_
  refine kc_I (a := []) 0 [.ref q0] SX (n_X6_init l D cI q0) (fun u U h hq => nsm_same h hq) (fun U hW => nsm_warm hW hN) q78 q80 q65 q79 ⟨by decide +kernel, by decide +kernel, by decide +kernel⟩ rfl ⟨(Nat.le_of_ble_eq_true rfl), (Nat.le_of_ble_eq_true rfl)⟩ rfl hl.1 rfl (Nat.le_of_ble_eq_true rfl) dL_law_4 ⟨(Nat.le_of_ble_eq_true rfl), (Nat.le_of_ble_eq_true rfl)⟩ hP hD hK hS hA (fun u1 H locs hP hD hS hK6 => ?_)
  refine lv_astore_n (lv' := [(1, .ref q0), (0, .ref b)]) hx hb dL_law_7 rfl hl (by decide) rfl (fun ls hl => ?_)
  refine va_new (ci := 7) (fs := [.null, .null, .null, .int 0, .null, .int 0, .int 0, .int 0, .int 0, .null, .null, .null, .null, .null, .int 0, .null, .int 0, .int 0, .null, .null, .null, .null]) (C := RX7) (T := TX7) (N := 22) hx hb htA inX7 tyX7 tyX7_ok hown (htA _ q688) (htA _ q689) (htA _ q72) hK hP hD hS hA rfl (fun j hj => by revert j; decide +kernel) (Nat.le_of_ble_eq_true rfl) (Nat.le_of_ble_eq_true rfl) dL_law_8 (fun q1 H hP hD hS => ?_)
  refine lv_dup hx hb dL_law_11 rfl ?_
  refine kc_I (a := [] ++ wClass cI u1.2 q0 u1.1) 0 [.ref q1] SX (n_X7_init l D cI q1) (fun _ _ _ _ => trivial) (fun _ _ => trivial) q690 q692 q72 q691 ⟨by decide +kernel, by decide +kernel, by decide +kernel⟩ rfl ⟨(Nat.le_of_ble_eq_true rfl), (Nat.le_of_ble_eq_true rfl)⟩ rfl hl.1 rfl (Nat.le_of_ble_eq_true rfl) dL_law_12 ⟨(Nat.le_of_ble_eq_true rfl), (Nat.le_of_ble_eq_true rfl)⟩ hP hD hK hS hA (fun u2 H locs hP hD hS hK7 => ?_)
  refine lv_astore_n (lv' := [(2, .ref q1), (1, .ref q0), (0, .ref b)]) hx hb dL_law_15 rfl hl (by decide) rfl (fun ls hl => ?_)
  refine lv_iconst (v := 0) hx hb dL_law_16 (by decide) ?_
  refine lv_istore_n (lv' := [(3, .int 0), (2, .ref q1), (1, .ref q0), (0, .ref b)]) hx hb dL_law_17 rfl hl (by decide) rfl (fun ls hl => ?_)
  obtain ⟨⟨t0, t1, t2⟩, hst⟩ := st_all hts hgv
  obtain ⟨hP9, hD9⟩ := start_world D cI u2.2 u1.2 t0 t1 t2 q0 q1 u1.1 u2.1 hP hD
  have CL : LX (p, l, e, s, m, below, meth, c, b, (mkG D cI u2.2 u1.2 t0 t1 t2 q0 q1 u1.1 u2.1), xs, L) := ⟨hx, hb, hml, hown, htA, (hK.app hK7).app hK6, hst _ rfl, nst_all hts, hX, hbl, hr, hlocks⟩
  have hF := law_loop CL hL (L + 1) 0 0 S0C S0M (by show L < 0 + 6 * (L + 1); omega) (Nat.zero_le _) (Nat.le_refl _) rel_0
  exact hF H locs ls hP9 hD9 hS hl
