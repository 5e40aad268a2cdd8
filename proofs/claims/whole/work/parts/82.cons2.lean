/-! CONSTRUCTORS of Reader, House -/
def wReader (cI : ClassId) (h0 a0 a1 a2 a3 : Nat) : va_W := (h0, .inr (2, [.ref a0, .ref a3, .int 0, .int 0, .int 0, .int 0])) :: (wLaw cI a0 0 0 a1 a2 ++ [(a3, .inl (cI, (60, .inl (fun _ => 0))))])
def wHouse (cI : ClassId) (h0 a0 a1 a2 a3 a4 a5 a6 a7 a8 a9 a10 a11 a12 a13 a14 : Nat) : va_W := (h0, .inr (0, [.ref a0, .ref a3, .ref a6, .ref a13, .int 0, .ref a14, .int 0, .int 1])) :: (((wLaw cI a0 999 0 a1 a2 ++ wLaw cI a3 1 1 a4 a5) ++ wTable cI a6 a0 a3 a7 a8 a9 a10 a11 a12) ++ [(a13, .inl (cI, (60, .inl (fun _ => 0)))), (a14, .inl (cI, (24, .inl (fun _ => 0))))])
set_option maxHeartbeats 4000000 in
set_option maxRecDepth 100000 in
theorem n_X2_init (l : Launch) (D : va_G) (cI : ClassId) (h0 : Nat) : CN l yX2_init cX2_init 1 2 34 4 185 D cI [] h0 (.inr (2, [.null, .null, .int 0, .int 0, .int 0, .int 0])) (fun u => wReader cI h0 (u.1 0) (u.1 1) (u.1 2) (u.1 3)) (fun _ => []) (fun _ => True) := by
  intro sz
  refine Met.ofW (cc := cX2_init) (maxL := 1) (ret := none) (by decide) rfl ?_
  intro p e s m args below meth c s₁ B hml hv
  obtain ⟨rfl, hsz, hP, hK, hD0, hX⟩ := hv
  have hx := B.exec
  have hb := B.bytes
  have hr := B.returns
  have hts := atoms_spec (ws := Cond.code yX2_init cX2_init 1 none :: AW) B.pre
  have hown : s.vm.findClass RX2 = some m.cls := findClass_of_methodNamed B.named
  have hin : meth.name = "<init>" := (name_of_methodNamed B.named B.method).1
  subst hsz
  have hD := hD0.self (sz := s.heap.size)
  generalize hAe : va_A [(h0, .inr (2, [.null, .null, .int 0, .int 0, .int 0, .int 0]))] s.heap.size = A at hD ⊢
  have hA : ∀ q : Nat, s.heap.size ≤ q → A q := fun q h => by rw [← hAe]; exact Or.inr h
  have hS : va_S A s.heap s.heap [] := va_S.rf
  have hl := lv_entry ([.ref h0]) (n := 1) (Nat.le_of_ble_eq_true rfl)
  rw [lg_entry_eq]
  generalize (lg_sl ([.ref h0]) ++ List.replicate (1 - (lg_sl ([.ref h0])).length) Slot.unset).toArray = ls at hl ⊢
  have hl : lv_has ls 1 [(0, .ref h0)] := hl
  have htA : ∀ w ∈ AW, w.before #[Value.ref h0] s = true := fun w hw => hts w (List.mem_cons_of_mem _ hw)
  have SX : CallFix p m c cX2_init 1 s _ AW RX2 := ⟨hx, hb, hml, hown, htA⟩
  have hP : va_P D vwCl ((h0, .inr (2, [.null, .null, .int 0, .int 0, .int 0, .int 0])) :: []) _ := hP
  have hD : va_D A ((h0, .inr (2, [.null, .null, .int 0, .int 0, .int 0, .int 0])) :: []) := hD
  refine lv_aload_n hx hb dX2_init_0 rfl (lv_at hl 0 rfl) ?_
  refine W.objInit hx hb hown (htA _ q205) (htA _ q82) (htA _ q83) rfl (by rw [hml]; exact hl.1) rfl dX2_init_1 (Nat.le_of_ble_eq_true rfl) (Nat.le_of_ble_eq_true rfl) ?_
  refine W.eq (g2 := F0 m 4 ls []) rfl ?_
  refine lv_aload_n hx hb dX2_init_4 rfl (lv_at hl 0 rfl) ?_
  refine va_new (ci := 1) (fs := [.int 0, .int 0, .null, .null, .int 0]) (C := RX1) (T := TX1) (N := 5) hx hb htA inX1 tyX1 tyX1_ok hown (htA _ q206) (htA _ q91) (htA _ q67) hK hP hD hS hA rfl (fun j hj => by revert j; decide +kernel) (Nat.le_of_ble_eq_true rfl) (Nat.le_of_ble_eq_true rfl) dX2_init_5 (fun q1 H hP hD hS => ?_)
  refine lv_dup hx hb dX2_init_8 rfl ?_
  refine lv_iconst (v := 0) hx hb dX2_init_9 (by decide) ?_
  refine lv_iconst (v := 0) hx hb dX2_init_10 (by decide) ?_
  refine kc_I (a := ((h0, .inr (2, [.null, .null, .int 0, .int 0, .int 0, .int 0])) :: [])) 2 [.ref q1, .ref h0] SX (n_X1_init l D cI q1 0 0 (by decide)) (fun _ _ _ _ => trivial) (fun _ _ => trivial) q207 q94 q67 q93 ⟨by decide +kernel, by decide +kernel, by decide +kernel⟩ rfl ⟨(Nat.le_of_ble_eq_true rfl), (Nat.le_of_ble_eq_true rfl)⟩ rfl hl.1 rfl (Nat.le_of_ble_eq_true rfl) dX2_init_11 ⟨(Nat.le_of_ble_eq_true rfl), (Nat.le_of_ble_eq_true rfl)⟩ hP hD hK hS hA (fun u1 H locs hP hD hS _ => ?_)
  have hP : va_P D vwCl ((h0, .inr (2, [.null, .null, .int 0, .int 0, .int 0, .int 0])) :: wLaw cI q1 0 0 (u1.1 0) (u1.1 1)) _ := hP
  have hD : va_D A ((h0, .inr (2, [.null, .null, .int 0, .int 0, .int 0, .int 0])) :: wLaw cI q1 0 0 (u1.1 0) (u1.1 1)) := hD
  refine va_putF (ci := 2) (v := .ref q1) (ty := .object "LeftoverRule$Law") (C := RX2) (T := TX2) (N := 6) hx hb htA inX2 tyX2 tyX2_ok nmX2 hown hK hP hD hS 0 rfl rfl 0 (by decide) (htA _ q208) (fun _ h9 => h9) rfl hin rfl (by decide +kernel) rfl rfl (Nat.le_of_ble_eq_true rfl) dX2_init_14 (fun H locs hP hD hS => ?_)
  have hP : va_P D vwCl ((h0, .inr (2, [.ref q1, .null, .int 0, .int 0, .int 0, .int 0])) :: wLaw cI q1 0 0 (u1.1 0) (u1.1 1)) _ := hP
  have hD : va_D A ((h0, .inr (2, [.ref q1, .null, .int 0, .int 0, .int 0, .int 0])) :: wLaw cI q1 0 0 (u1.1 0) (u1.1 1)) := hD
  refine lv_aload_n hx hb dX2_init_17 rfl (lv_at hl 0 rfl) ?_
  refine lv_bipush hx hb dX2_init_18 rfl ?_
  refine va_newa (atype := .int) (ty := .int) (N' := 60) (a0 := (60, .inl (fun _ => 0))) hx hb (htA _ q112) rfl hK hP hD hS hA (fun cA => rfl) (by decide) (by decide) (by decide) (Nat.le_of_ble_eq_true rfl) (Nat.le_of_ble_eq_true rfl) dX2_init_20 (fun q2 cA H hK1 hP hD hS => ?_)
  obtain rfl := ka_int hK1 0 1 rfl rfl
  have hP : va_P D vwCl ((h0, .inr (2, [.ref q1, .null, .int 0, .int 0, .int 0, .int 0])) :: (wLaw cI q1 0 0 (u1.1 0) (u1.1 1) ++ [(q2, .inl (cI, (60, .inl (fun _ => 0))))])) _ := hP
  have hD : va_D A ((h0, .inr (2, [.ref q1, .null, .int 0, .int 0, .int 0, .int 0])) :: (wLaw cI q1 0 0 (u1.1 0) (u1.1 1) ++ [(q2, .inl (cI, (60, .inl (fun _ => 0))))])) := hD
  refine va_putF (ci := 2) (v := .ref q2) (ty := .array .int) (C := RX2) (T := TX2) (N := 6) hx hb htA inX2 tyX2 tyX2_ok nmX2 hown hK hP hD hS 0 rfl rfl 1 (by decide) (htA _ q210) (fun _ h9 => h9) rfl hin rfl (by decide +kernel) rfl rfl (Nat.le_of_ble_eq_true rfl) dX2_init_22 (fun H locs hP hD hS => ?_)
  have hP : va_P D vwCl ((h0, .inr (2, [.ref q1, .ref q2, .int 0, .int 0, .int 0, .int 0])) :: (wLaw cI q1 0 0 (u1.1 0) (u1.1 1) ++ [(q2, .inl (cI, (60, .inl (fun _ => 0))))])) _ := hP
  have hD : va_D A ((h0, .inr (2, [.ref q1, .ref q2, .int 0, .int 0, .int 0, .int 0])) :: (wLaw cI q1 0 0 (u1.1 0) (u1.1 1) ++ [(q2, .inl (cI, (60, .inl (fun _ => 0))))])) := hD
  obtain ⟨u, hu⟩ : ∃ u : (Nat → Nat) × ClassId, u = (fun i => [q1, u1.1 0, u1.1 1, q2].getD i 0, cI) := ⟨_, rfl⟩
  have hP : va_P D vwCl (wReader cI h0 (u.1 0) (u.1 1) (u.1 2) (u.1 3)) H := by subst hu; exact hP
  have hD : va_D A (wReader cI h0 (u.1 0) (u.1 1) (u.1 2) (u.1 3)) := by subst hu; exact hD
  exact W.vret hx hb hr (fun t ht hW => ⟨⟨u, rfl, trivial, by rw [ht]; exact hP, va_K.moved hW.alike (hK.sub [] rfl), hD⟩, hS.F ht⟩) hS.2.2 dX2_init_25
set_option maxHeartbeats 4000000 in
set_option maxRecDepth 100000 in
theorem n_X0_init (l : Launch) (D : va_G) (cI : ClassId) (h0 : Nat) : CN l yX0_init cX0_init 1 2 34 15 399 D cI [] h0 (.inr (0, [.null, .null, .null, .null, .int 0, .null, .int 0, .int 0])) (fun u => wHouse cI h0 (u.1 0) (u.1 1) (u.1 2) (u.1 3) (u.1 4) (u.1 5) (u.1 6) (u.1 7) (u.1 8) (u.1 9) (u.1 10) (u.1 11) (u.1 12) (u.1 13) (u.1 14)) (fun _ => []) (fun _ => True) := by
  intro sz
  refine Met.ofW (cc := cX0_init) (maxL := 1) (ret := none) (by decide) rfl ?_
  intro p e s m args below meth c s₁ B hml hv
  obtain ⟨rfl, hsz, hP, hK, hD0, hX⟩ := hv
  have hx := B.exec
  have hb := B.bytes
  have hr := B.returns
  have hts := atoms_spec (ws := Cond.code yX0_init cX0_init 1 none :: AW) B.pre
  have hown : s.vm.findClass RX0 = some m.cls := findClass_of_methodNamed B.named
  have hin : meth.name = "<init>" := (name_of_methodNamed B.named B.method).1
  subst hsz
  have hD := hD0.self (sz := s.heap.size)
  generalize hAe : va_A [(h0, .inr (0, [.null, .null, .null, .null, .int 0, .null, .int 0, .int 0]))] s.heap.size = A at hD ⊢
  have hA : ∀ q : Nat, s.heap.size ≤ q → A q := fun q h => by rw [← hAe]; exact Or.inr h
  have hS : va_S A s.heap s.heap [] := va_S.rf
  have hl := lv_entry ([.ref h0]) (n := 1) (Nat.le_of_ble_eq_true rfl)
  rw [lg_entry_eq]
  generalize (lg_sl ([.ref h0]) ++ List.replicate (1 - (lg_sl ([.ref h0])).length) Slot.unset).toArray = ls at hl ⊢
  have hl : lv_has ls 1 [(0, .ref h0)] := hl
  have htA : ∀ w ∈ AW, w.before #[Value.ref h0] s = true := fun w hw => hts w (List.mem_cons_of_mem _ hw)
  have SX : CallFix p m c cX0_init 1 s _ AW RX0 := ⟨hx, hb, hml, hown, htA⟩
  have hP : va_P D vwCl ((h0, .inr (0, [.null, .null, .null, .null, .int 0, .null, .int 0, .int 0])) :: []) _ := hP
  have hD : va_D A ((h0, .inr (0, [.null, .null, .null, .null, .int 0, .null, .int 0, .int 0])) :: []) := hD
  refine lv_aload_n hx hb dX0_init_0 rfl (lv_at hl 0 rfl) ?_
  refine W.objInit hx hb hown (htA _ q89) (htA _ q82) (htA _ q83) rfl (by rw [hml]; exact hl.1) rfl dX0_init_1 (Nat.le_of_ble_eq_true rfl) (Nat.le_of_ble_eq_true rfl) ?_
  refine W.eq (g2 := F0 m 4 ls []) rfl ?_
  refine lv_aload_n hx hb dX0_init_4 rfl (lv_at hl 0 rfl) ?_
  refine va_new (ci := 1) (fs := [.int 0, .int 0, .null, .null, .int 0]) (C := RX1) (T := TX1) (N := 5) hx hb htA inX1 tyX1 tyX1_ok hown (htA _ q90) (htA _ q91) (htA _ q67) hK hP hD hS hA rfl (fun j hj => by revert j; decide +kernel) (Nat.le_of_ble_eq_true rfl) (Nat.le_of_ble_eq_true rfl) dX0_init_5 (fun q1 H hP hD hS => ?_)
  refine lv_dup hx hb dX0_init_8 rfl ?_
  refine lv_sipush hx hb dX0_init_9 rfl ?_
  refine lv_iconst (v := 0) hx hb dX0_init_12 (by decide) ?_
  refine kc_I (a := ((h0, .inr (0, [.null, .null, .null, .null, .int 0, .null, .int 0, .int 0])) :: [])) 2 [.ref q1, .ref h0] SX (n_X1_init l D cI q1 999 0 (by decide)) (fun _ _ _ _ => trivial) (fun _ _ => trivial) q92 q94 q67 q93 ⟨by decide +kernel, by decide +kernel, by decide +kernel⟩ rfl ⟨(Nat.le_of_ble_eq_true rfl), (Nat.le_of_ble_eq_true rfl)⟩ rfl hl.1 rfl (Nat.le_of_ble_eq_true rfl) dX0_init_13 ⟨(Nat.le_of_ble_eq_true rfl), (Nat.le_of_ble_eq_true rfl)⟩ hP hD hK hS hA (fun u1 H locs hP hD hS _ => ?_)
  have hP : va_P D vwCl ((h0, .inr (0, [.null, .null, .null, .null, .int 0, .null, .int 0, .int 0])) :: wLaw cI q1 999 0 (u1.1 0) (u1.1 1)) _ := hP
  have hD : va_D A ((h0, .inr (0, [.null, .null, .null, .null, .int 0, .null, .int 0, .int 0])) :: wLaw cI q1 999 0 (u1.1 0) (u1.1 1)) := hD
  refine va_putF (ci := 0) (v := .ref q1) (ty := .object "LeftoverRule$Law") (C := RX0) (T := TX0) (N := 8) hx hb htA inX0 tyX0 tyX0_ok nmX0 hown hK hP hD hS 0 rfl rfl 0 (by decide) (htA _ q165) (fun _ h9 => h9) rfl hin rfl (by decide +kernel) rfl rfl (Nat.le_of_ble_eq_true rfl) dX0_init_16 (fun H locs hP hD hS => ?_)
  have hP : va_P D vwCl ((h0, .inr (0, [.ref q1, .null, .null, .null, .int 0, .null, .int 0, .int 0])) :: wLaw cI q1 999 0 (u1.1 0) (u1.1 1)) _ := hP
  have hD : va_D A ((h0, .inr (0, [.ref q1, .null, .null, .null, .int 0, .null, .int 0, .int 0])) :: wLaw cI q1 999 0 (u1.1 0) (u1.1 1)) := hD
  refine lv_aload_n hx hb dX0_init_19 rfl (lv_at hl 0 rfl) ?_
  refine va_new (ci := 1) (fs := [.int 0, .int 0, .null, .null, .int 0]) (C := RX1) (T := TX1) (N := 5) hx hb htA inX1 tyX1 tyX1_ok hown (htA _ q90) (htA _ q91) (htA _ q67) hK hP hD hS hA rfl (fun j hj => by revert j; decide +kernel) (Nat.le_of_ble_eq_true rfl) (Nat.le_of_ble_eq_true rfl) dX0_init_20 (fun q2 H hP hD hS => ?_)
  refine lv_dup hx hb dX0_init_23 rfl ?_
  refine lv_iconst (v := 1) hx hb dX0_init_24 (by decide) ?_
  refine lv_iconst (v := 1) hx hb dX0_init_25 (by decide) ?_
  refine kc_I (a := ((h0, .inr (0, [.ref q1, .null, .null, .null, .int 0, .null, .int 0, .int 0])) :: wLaw cI q1 999 0 (u1.1 0) (u1.1 1))) 2 [.ref q2, .ref h0] SX (n_X1_init l D cI q2 1 1 (by decide)) (fun _ _ _ _ => trivial) (fun _ _ => trivial) q92 q94 q67 q93 ⟨by decide +kernel, by decide +kernel, by decide +kernel⟩ rfl ⟨(Nat.le_of_ble_eq_true rfl), (Nat.le_of_ble_eq_true rfl)⟩ rfl hl.1 rfl (Nat.le_of_ble_eq_true rfl) dX0_init_26 ⟨(Nat.le_of_ble_eq_true rfl), (Nat.le_of_ble_eq_true rfl)⟩ hP hD hK hS hA (fun u2 H locs hP hD hS _ => ?_)
  have hP : va_P D vwCl ((h0, .inr (0, [.ref q1, .null, .null, .null, .int 0, .null, .int 0, .int 0])) :: (wLaw cI q1 999 0 (u1.1 0) (u1.1 1) ++ wLaw cI q2 1 1 (u2.1 0) (u2.1 1))) _ := hP
  have hD : va_D A ((h0, .inr (0, [.ref q1, .null, .null, .null, .int 0, .null, .int 0, .int 0])) :: (wLaw cI q1 999 0 (u1.1 0) (u1.1 1) ++ wLaw cI q2 1 1 (u2.1 0) (u2.1 1))) := hD
  refine va_putF (ci := 0) (v := .ref q2) (ty := .object "LeftoverRule$Law") (C := RX0) (T := TX0) (N := 8) hx hb htA inX0 tyX0 tyX0_ok nmX0 hown hK hP hD hS 0 rfl rfl 1 (by decide) (htA _ q167) (fun _ h9 => h9) rfl hin rfl (by decide +kernel) rfl rfl (Nat.le_of_ble_eq_true rfl) dX0_init_29 (fun H locs hP hD hS => ?_)
  have hP : va_P D vwCl ((h0, .inr (0, [.ref q1, .ref q2, .null, .null, .int 0, .null, .int 0, .int 0])) :: (wLaw cI q1 999 0 (u1.1 0) (u1.1 1) ++ wLaw cI q2 1 1 (u2.1 0) (u2.1 1))) _ := hP
  have hD : va_D A ((h0, .inr (0, [.ref q1, .ref q2, .null, .null, .int 0, .null, .int 0, .int 0])) :: (wLaw cI q1 999 0 (u1.1 0) (u1.1 1) ++ wLaw cI q2 1 1 (u2.1 0) (u2.1 1))) := hD
  refine lv_aload_n hx hb dX0_init_32 rfl (lv_at hl 0 rfl) ?_
  refine va_new (ci := 4) (fs := [.null, .null, .int 0, .int 0, .int 0, .null, .null, .null, .null, .null, .null]) (C := RX4) (T := TX4) (N := 11) hx hb htA inX4 tyX4 tyX4_ok hown (htA _ q113) (htA _ q114) (htA _ q68) hK hP hD hS hA rfl (fun j hj => by revert j; decide +kernel) (Nat.le_of_ble_eq_true rfl) (Nat.le_of_ble_eq_true rfl) dX0_init_33 (fun q3 H hP hD hS => ?_)
  refine lv_dup hx hb dX0_init_36 rfl ?_
  refine lv_aload_n hx hb dX0_init_37 rfl (lv_at hl 0 rfl) ?_
  refine va_get (ci := 0) (v := .ref q1) (C := RX0) (T := TX0) (N := 8) hx hb htA inX0 hown hK hP 0 rfl rfl 0 (by decide) (htA _ q165) (fun _ h9 => h9) rfl dX0_init_38 ?_
  refine lv_aload_n hx hb dX0_init_41 rfl (lv_at hl 0 rfl) ?_
  refine va_get (ci := 0) (v := .ref q2) (C := RX0) (T := TX0) (N := 8) hx hb htA inX0 hown hK hP 0 rfl rfl 1 (by decide) (htA _ q167) (fun _ h9 => h9) rfl dX0_init_42 ?_
  refine kc_I (a := ((h0, .inr (0, [.ref q1, .ref q2, .null, .null, .int 0, .null, .int 0, .int 0])) :: (wLaw cI q1 999 0 (u1.1 0) (u1.1 1) ++ wLaw cI q2 1 1 (u2.1 0) (u2.1 1)))) 2 [.ref q3, .ref h0] SX (n_X4_init l D cI q3 q1 q2) (fun _ _ _ _ => trivial) (fun _ _ => trivial) q115 q117 q68 q116 ⟨by decide +kernel, by decide +kernel, by decide +kernel⟩ rfl ⟨(Nat.le_of_ble_eq_true rfl), (Nat.le_of_ble_eq_true rfl)⟩ rfl hl.1 rfl (Nat.le_of_ble_eq_true rfl) dX0_init_45 ⟨(Nat.le_of_ble_eq_true rfl), (Nat.le_of_ble_eq_true rfl)⟩ hP hD hK hS hA (fun u3 H locs hP hD hS _ => ?_)
  have hP : va_P D vwCl ((h0, .inr (0, [.ref q1, .ref q2, .null, .null, .int 0, .null, .int 0, .int 0])) :: ((wLaw cI q1 999 0 (u1.1 0) (u1.1 1) ++ wLaw cI q2 1 1 (u2.1 0) (u2.1 1)) ++ wTable cI q3 q1 q2 (u3.1 0) (u3.1 1) (u3.1 2) (u3.1 3) (u3.1 4) (u3.1 5))) _ := hP
  have hD : va_D A ((h0, .inr (0, [.ref q1, .ref q2, .null, .null, .int 0, .null, .int 0, .int 0])) :: ((wLaw cI q1 999 0 (u1.1 0) (u1.1 1) ++ wLaw cI q2 1 1 (u2.1 0) (u2.1 1)) ++ wTable cI q3 q1 q2 (u3.1 0) (u3.1 1) (u3.1 2) (u3.1 3) (u3.1 4) (u3.1 5))) := hD
  refine va_putF (ci := 0) (v := .ref q3) (ty := .object "LeftoverRule$Table") (C := RX0) (T := TX0) (N := 8) hx hb htA inX0 tyX0 tyX0_ok nmX0 hown hK hP hD hS 0 rfl rfl 2 (by decide) (htA _ q170) (fun _ h9 => h9) rfl hin rfl (by decide +kernel) rfl rfl (Nat.le_of_ble_eq_true rfl) dX0_init_48 (fun H locs hP hD hS => ?_)
  have hP : va_P D vwCl ((h0, .inr (0, [.ref q1, .ref q2, .ref q3, .null, .int 0, .null, .int 0, .int 0])) :: ((wLaw cI q1 999 0 (u1.1 0) (u1.1 1) ++ wLaw cI q2 1 1 (u2.1 0) (u2.1 1)) ++ wTable cI q3 q1 q2 (u3.1 0) (u3.1 1) (u3.1 2) (u3.1 3) (u3.1 4) (u3.1 5))) _ := hP
  have hD : va_D A ((h0, .inr (0, [.ref q1, .ref q2, .ref q3, .null, .int 0, .null, .int 0, .int 0])) :: ((wLaw cI q1 999 0 (u1.1 0) (u1.1 1) ++ wLaw cI q2 1 1 (u2.1 0) (u2.1 1)) ++ wTable cI q3 q1 q2 (u3.1 0) (u3.1 1) (u3.1 2) (u3.1 3) (u3.1 4) (u3.1 5))) := hD
  refine lv_aload_n hx hb dX0_init_51 rfl (lv_at hl 0 rfl) ?_
  refine lv_bipush hx hb dX0_init_52 rfl ?_
  refine va_newa (atype := .int) (ty := .int) (N' := 60) (a0 := (60, .inl (fun _ => 0))) hx hb (htA _ q112) rfl hK hP hD hS hA (fun cA => rfl) (by decide) (by decide) (by decide) (Nat.le_of_ble_eq_true rfl) (Nat.le_of_ble_eq_true rfl) dX0_init_54 (fun q4 cA H hK1 hP hD hS => ?_)
  obtain rfl := ka_int hK1 0 1 rfl rfl
  have hP : va_P D vwCl ((h0, .inr (0, [.ref q1, .ref q2, .ref q3, .null, .int 0, .null, .int 0, .int 0])) :: (((wLaw cI q1 999 0 (u1.1 0) (u1.1 1) ++ wLaw cI q2 1 1 (u2.1 0) (u2.1 1)) ++ wTable cI q3 q1 q2 (u3.1 0) (u3.1 1) (u3.1 2) (u3.1 3) (u3.1 4) (u3.1 5)) ++ [(q4, .inl (cI, (60, .inl (fun _ => 0))))])) _ := hP
  have hD : va_D A ((h0, .inr (0, [.ref q1, .ref q2, .ref q3, .null, .int 0, .null, .int 0, .int 0])) :: (((wLaw cI q1 999 0 (u1.1 0) (u1.1 1) ++ wLaw cI q2 1 1 (u2.1 0) (u2.1 1)) ++ wTable cI q3 q1 q2 (u3.1 0) (u3.1 1) (u3.1 2) (u3.1 3) (u3.1 4) (u3.1 5)) ++ [(q4, .inl (cI, (60, .inl (fun _ => 0))))])) := hD
  refine va_putF (ci := 0) (v := .ref q4) (ty := .array .int) (C := RX0) (T := TX0) (N := 8) hx hb htA inX0 tyX0 tyX0_ok nmX0 hown hK hP hD hS 0 rfl rfl 3 (by decide) (htA _ q171) (fun _ h9 => h9) rfl hin rfl (by decide +kernel) rfl rfl (Nat.le_of_ble_eq_true rfl) dX0_init_56 (fun H locs hP hD hS => ?_)
  have hP : va_P D vwCl ((h0, .inr (0, [.ref q1, .ref q2, .ref q3, .ref q4, .int 0, .null, .int 0, .int 0])) :: (((wLaw cI q1 999 0 (u1.1 0) (u1.1 1) ++ wLaw cI q2 1 1 (u2.1 0) (u2.1 1)) ++ wTable cI q3 q1 q2 (u3.1 0) (u3.1 1) (u3.1 2) (u3.1 3) (u3.1 4) (u3.1 5)) ++ [(q4, .inl (cI, (60, .inl (fun _ => 0))))])) _ := hP
  have hD : va_D A ((h0, .inr (0, [.ref q1, .ref q2, .ref q3, .ref q4, .int 0, .null, .int 0, .int 0])) :: (((wLaw cI q1 999 0 (u1.1 0) (u1.1 1) ++ wLaw cI q2 1 1 (u2.1 0) (u2.1 1)) ++ wTable cI q3 q1 q2 (u3.1 0) (u3.1 1) (u3.1 2) (u3.1 3) (u3.1 4) (u3.1 5)) ++ [(q4, .inl (cI, (60, .inl (fun _ => 0))))])) := hD
  refine lv_aload_n hx hb dX0_init_59 rfl (lv_at hl 0 rfl) ?_
  refine lv_bipush hx hb dX0_init_60 rfl ?_
  refine va_newa (atype := .int) (ty := .int) (N' := 24) (a0 := (24, .inl (fun _ => 0))) hx hb (htA _ q112) rfl hK hP hD hS hA (fun cA => rfl) (by decide) (by decide) (by decide) (Nat.le_of_ble_eq_true rfl) (Nat.le_of_ble_eq_true rfl) dX0_init_62 (fun q5 cA H hK1 hP hD hS => ?_)
  obtain rfl := ka_int hK1 0 1 rfl rfl
  have hP : va_P D vwCl ((h0, .inr (0, [.ref q1, .ref q2, .ref q3, .ref q4, .int 0, .null, .int 0, .int 0])) :: (((wLaw cI q1 999 0 (u1.1 0) (u1.1 1) ++ wLaw cI q2 1 1 (u2.1 0) (u2.1 1)) ++ wTable cI q3 q1 q2 (u3.1 0) (u3.1 1) (u3.1 2) (u3.1 3) (u3.1 4) (u3.1 5)) ++ [(q4, .inl (cI, (60, .inl (fun _ => 0)))), (q5, .inl (cI, (24, .inl (fun _ => 0))))])) _ := hP
  have hD : va_D A ((h0, .inr (0, [.ref q1, .ref q2, .ref q3, .ref q4, .int 0, .null, .int 0, .int 0])) :: (((wLaw cI q1 999 0 (u1.1 0) (u1.1 1) ++ wLaw cI q2 1 1 (u2.1 0) (u2.1 1)) ++ wTable cI q3 q1 q2 (u3.1 0) (u3.1 1) (u3.1 2) (u3.1 3) (u3.1 4) (u3.1 5)) ++ [(q4, .inl (cI, (60, .inl (fun _ => 0)))), (q5, .inl (cI, (24, .inl (fun _ => 0))))])) := hD
  refine va_putF (ci := 0) (v := .ref q5) (ty := .array .int) (C := RX0) (T := TX0) (N := 8) hx hb htA inX0 tyX0 tyX0_ok nmX0 hown hK hP hD hS 0 rfl rfl 5 (by decide) (htA _ q175) (fun _ h9 => h9) rfl hin rfl (by decide +kernel) rfl rfl (Nat.le_of_ble_eq_true rfl) dX0_init_64 (fun H locs hP hD hS => ?_)
  have hP : va_P D vwCl ((h0, .inr (0, [.ref q1, .ref q2, .ref q3, .ref q4, .int 0, .ref q5, .int 0, .int 0])) :: (((wLaw cI q1 999 0 (u1.1 0) (u1.1 1) ++ wLaw cI q2 1 1 (u2.1 0) (u2.1 1)) ++ wTable cI q3 q1 q2 (u3.1 0) (u3.1 1) (u3.1 2) (u3.1 3) (u3.1 4) (u3.1 5)) ++ [(q4, .inl (cI, (60, .inl (fun _ => 0)))), (q5, .inl (cI, (24, .inl (fun _ => 0))))])) _ := hP
  have hD : va_D A ((h0, .inr (0, [.ref q1, .ref q2, .ref q3, .ref q4, .int 0, .ref q5, .int 0, .int 0])) :: (((wLaw cI q1 999 0 (u1.1 0) (u1.1 1) ++ wLaw cI q2 1 1 (u2.1 0) (u2.1 1)) ++ wTable cI q3 q1 q2 (u3.1 0) (u3.1 1) (u3.1 2) (u3.1 3) (u3.1 4) (u3.1 5)) ++ [(q4, .inl (cI, (60, .inl (fun _ => 0)))), (q5, .inl (cI, (24, .inl (fun _ => 0))))])) := hD
  refine lv_aload_n hx hb dX0_init_67 rfl (lv_at hl 0 rfl) ?_
  refine lv_iconst (v := 1) hx hb dX0_init_68 (by decide) ?_
  refine va_put (ci := 0) (v := .int 1) (ty := .int) (C := RX0) (T := TX0) (N := 8) hx hb htA inX0 tyX0 tyX0_ok nmX0 hown hK hP hD hS 0 rfl rfl 7 (by decide) (htA _ q179) (fun _ h9 => h9) rfl (by decide +kernel) rfl rfl (Nat.le_of_ble_eq_true rfl) dX0_init_69 (fun H locs hP hD hS => ?_)
  have hP : va_P D vwCl ((h0, .inr (0, [.ref q1, .ref q2, .ref q3, .ref q4, .int 0, .ref q5, .int 0, .int 1])) :: (((wLaw cI q1 999 0 (u1.1 0) (u1.1 1) ++ wLaw cI q2 1 1 (u2.1 0) (u2.1 1)) ++ wTable cI q3 q1 q2 (u3.1 0) (u3.1 1) (u3.1 2) (u3.1 3) (u3.1 4) (u3.1 5)) ++ [(q4, .inl (cI, (60, .inl (fun _ => 0)))), (q5, .inl (cI, (24, .inl (fun _ => 0))))])) _ := hP
  have hD : va_D A ((h0, .inr (0, [.ref q1, .ref q2, .ref q3, .ref q4, .int 0, .ref q5, .int 0, .int 1])) :: (((wLaw cI q1 999 0 (u1.1 0) (u1.1 1) ++ wLaw cI q2 1 1 (u2.1 0) (u2.1 1)) ++ wTable cI q3 q1 q2 (u3.1 0) (u3.1 1) (u3.1 2) (u3.1 3) (u3.1 4) (u3.1 5)) ++ [(q4, .inl (cI, (60, .inl (fun _ => 0)))), (q5, .inl (cI, (24, .inl (fun _ => 0))))])) := hD
  obtain ⟨u, hu⟩ : ∃ u : (Nat → Nat) × ClassId, u = (fun i => [q1, u1.1 0, u1.1 1, q2, u2.1 0, u2.1 1, q3, u3.1 0, u3.1 1, u3.1 2, u3.1 3, u3.1 4, u3.1 5, q4, q5].getD i 0, cI) := ⟨_, rfl⟩
  have hP : va_P D vwCl (wHouse cI h0 (u.1 0) (u.1 1) (u.1 2) (u.1 3) (u.1 4) (u.1 5) (u.1 6) (u.1 7) (u.1 8) (u.1 9) (u.1 10) (u.1 11) (u.1 12) (u.1 13) (u.1 14)) H := by subst hu; exact hP
  have hD : va_D A (wHouse cI h0 (u.1 0) (u.1 1) (u.1 2) (u.1 3) (u.1 4) (u.1 5) (u.1 6) (u.1 7) (u.1 8) (u.1 9) (u.1 10) (u.1 11) (u.1 12) (u.1 13) (u.1 14)) := by subst hu; exact hD
  exact W.vret hx hb hr (fun t ht hW => ⟨⟨u, rfl, trivial, by rw [ht]; exact hP, va_K.moved hW.alike (hK.sub [] rfl), hD⟩, hS.F ht⟩) hS.2.2 dX0_init_72
