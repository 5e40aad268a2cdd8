/-! THE CONSTRUCTOR of the Table -/
def zTable (h0 : Nat) : va_W := [(h0, .inr (4, [.null, .null, .int 0, .int 0, .int 0, .null, .null, .null, .null, .null, .null]))]
def wTable (h0 : Nat) (a b : Nat) (u : (Nat → Nat) × (Nat → ClassId)) : va_W := [(h0, .inr (4, [.ref a, .ref b, .int 0, .int 0, .int 0, .ref (u.1 0), .ref (u.1 1), .ref (u.1 2), .ref (u.1 3), .ref (u.1 4), .ref (u.1 5)])), (u.1 0, .inl (u.2 0, (9, .inl (fun _ => 0)))), (u.1 1, .inl (u.2 1, (9, .inl (fun _ => 0)))), (u.1 2, .inl (u.2 2, (9, .inl (fun _ => 0)))), (u.1 3, .inl (u.2 3, (9, .inl (fun _ => 0)))), (u.1 4, .inl (u.2 4, (9, .inl (fun _ => 0)))), (u.1 5, .inl (u.2 5, (9, .inl (fun _ => 0))))]
set_option maxHeartbeats 4000000 in
set_option maxRecDepth 100000 in
theorem c_X4_init (l : Launch) (D : va_G) (h0 sz : Nat) (a b : Nat) : Met l yX4_init (Cond.code yX4_init cX4_init 3 none :: AW) { frames := 1, cells := 6, slots := 54, locals := 12 } (va_Pc [.ref h0, .ref a, .ref b] (fun U => U.heap.size = sz ∧ va_P D vwCl (zTable h0) U.heap ∧ va_K D vwCl [] U ∧ va_D (fun _ => True) (zTable h0))) (va_Qv (fun _ : (Nat → Nat) × (Nat → ClassId) => True) (fun u t => va_P D vwCl (wTable h0 a b u) t.heap ∧ va_K D vwCl [(u.2 0, .int), (u.2 1, .int), (u.2 2, .int), (u.2 3, .int), (u.2 4, .int), (u.2 5, .int)] t ∧ va_D (va_A (zTable h0) sz) (wTable h0 a b u)) (va_A (zTable h0) sz)) 6 54 (va_A (zTable h0) sz) := by
  refine Met.ofW (cc := cX4_init) (maxL := 3) (ret := none) (by decide) rfl ?_
  intro p e s m args below meth c s₁ B hml hv
  obtain ⟨rfl, hsz, hP, hK, hD0⟩ := hv
  have hx := B.exec
  have hb := B.bytes
  have hr := B.returns
  have hts := atoms_spec (ws := Cond.code yX4_init cX4_init 3 none :: AW) B.pre
  have hown : s.vm.findClass RX4 = some m.cls := findClass_of_methodNamed B.named
  have hlocks := B.notSynchronized
  have hin : meth.name = "<init>" := (name_of_methodNamed B.named B.method).1
  subst hsz
  have hD := hD0.self (sz := s.heap.size)
  generalize hAe : va_A (zTable h0) s.heap.size = A at hD ⊢
  have hA : ∀ q : Nat, s.heap.size ≤ q → A q := fun q h => by rw [← hAe]; exact Or.inr h
  have hS : va_S A s.heap s.heap [] := va_S.rf
  have hP : va_P D vwCl (zTable h0) s.heap := hP
  have hl := lv_entry ([.ref h0, .ref a, .ref b]) (n := 3) (Nat.le_of_ble_eq_true rfl)
  rw [lg_entry_eq]
  generalize (lg_sl ([.ref h0, .ref a, .ref b]) ++ List.replicate (3 - (lg_sl ([.ref h0, .ref a, .ref b])).length) Slot.unset).toArray = ls at hl ⊢
  have hl : lv_has ls 3 [(0, .ref h0), (1, .ref a), (2, .ref b)] := hl
  have htA : ∀ w ∈ AW, w.before #[Value.ref h0, .ref a, .ref b] s = true := fun w hw => hts w (List.mem_cons_of_mem _ hw)
  refine lv_aload_n hx hb dX4_init_0 rfl (lv_at hl 0 rfl) ?_
  refine W.objInit hx hb hown (htA _ q118) (htA _ q82) (htA _ q83) rfl (by rw [hml]; exact hl.1) rfl dX4_init_1 (Nat.le_of_ble_eq_true rfl) (Nat.le_of_ble_eq_true rfl) ?_
  refine W.eq (g2 := F0 m 4 ls []) rfl ?_
  refine lv_aload_n hx hb dX4_init_4 rfl (lv_at hl 0 rfl) ?_
  refine lv_bipush hx hb dX4_init_5 rfl ?_
  refine va_newa (atype := .int) (ty := .int) (N' := 9) (a0 := (9, .inl (fun _ => 0))) hx hb (htA _ q112) rfl hK hP hD hS hA (fun cA => rfl) (by decide) (by decide) (by decide) (Nat.le_of_ble_eq_true rfl) (Nat.le_of_ble_eq_true rfl) dX4_init_7 (fun q0 c0 H hK hP hD hS => ?_)
  have hP : va_P D vwCl [(h0, .inr (4, [.null, .null, .int 0, .int 0, .int 0, .null, .null, .null, .null, .null, .null])), (q0, .inl (c0, (9, .inl (fun _ => 0))))] H := hP
  have hD : va_D A [(h0, .inr (4, [.null, .null, .int 0, .int 0, .int 0, .null, .null, .null, .null, .null, .null])), (q0, .inl (c0, (9, .inl (fun _ => 0))))] := hD
  have hK : va_K D vwCl [(c0, .int)] s := hK
  refine va_putF (ci := 4) (v := .ref q0) (ty := .array .int) (C := RX4) (T := TX4) (N := 11) hx hb htA inX4 tyX4 tyX4_ok nmX4 hown hK hP hD hS 0 rfl rfl 5 (by decide) (htA _ q128) (fun _ h9 => h9) rfl hin rfl (by decide +kernel) rfl rfl (Nat.le_of_ble_eq_true rfl) dX4_init_9 (fun H locs hP hD hS => ?_)
  have hP : va_P D vwCl [(h0, .inr (4, [.null, .null, .int 0, .int 0, .int 0, .ref q0, .null, .null, .null, .null, .null])), (q0, .inl (c0, (9, .inl (fun _ => 0))))] H := hP
  have hD : va_D A [(h0, .inr (4, [.null, .null, .int 0, .int 0, .int 0, .ref q0, .null, .null, .null, .null, .null])), (q0, .inl (c0, (9, .inl (fun _ => 0))))] := hD
  refine lv_aload_n hx hb dX4_init_12 rfl (lv_at hl 0 rfl) ?_
  refine lv_bipush hx hb dX4_init_13 rfl ?_
  refine va_newa (atype := .int) (ty := .int) (N' := 9) (a0 := (9, .inl (fun _ => 0))) hx hb (htA _ q112) rfl hK hP hD hS hA (fun cA => rfl) (by decide) (by decide) (by decide) (Nat.le_of_ble_eq_true rfl) (Nat.le_of_ble_eq_true rfl) dX4_init_15 (fun q1 c1 H hK hP hD hS => ?_)
  have hP : va_P D vwCl [(h0, .inr (4, [.null, .null, .int 0, .int 0, .int 0, .ref q0, .null, .null, .null, .null, .null])), (q0, .inl (c0, (9, .inl (fun _ => 0)))), (q1, .inl (c1, (9, .inl (fun _ => 0))))] H := hP
  have hD : va_D A [(h0, .inr (4, [.null, .null, .int 0, .int 0, .int 0, .ref q0, .null, .null, .null, .null, .null])), (q0, .inl (c0, (9, .inl (fun _ => 0)))), (q1, .inl (c1, (9, .inl (fun _ => 0))))] := hD
  have hK : va_K D vwCl [(c0, .int), (c1, .int)] s := hK
  refine va_putF (ci := 4) (v := .ref q1) (ty := .array .int) (C := RX4) (T := TX4) (N := 11) hx hb htA inX4 tyX4 tyX4_ok nmX4 hown hK hP hD hS 0 rfl rfl 6 (by decide) (htA _ q131) (fun _ h9 => h9) rfl hin rfl (by decide +kernel) rfl rfl (Nat.le_of_ble_eq_true rfl) dX4_init_17 (fun H locs hP hD hS => ?_)
  have hP : va_P D vwCl [(h0, .inr (4, [.null, .null, .int 0, .int 0, .int 0, .ref q0, .ref q1, .null, .null, .null, .null])), (q0, .inl (c0, (9, .inl (fun _ => 0)))), (q1, .inl (c1, (9, .inl (fun _ => 0))))] H := hP
  have hD : va_D A [(h0, .inr (4, [.null, .null, .int 0, .int 0, .int 0, .ref q0, .ref q1, .null, .null, .null, .null])), (q0, .inl (c0, (9, .inl (fun _ => 0)))), (q1, .inl (c1, (9, .inl (fun _ => 0))))] := hD
  refine lv_aload_n hx hb dX4_init_20 rfl (lv_at hl 0 rfl) ?_
  refine lv_bipush hx hb dX4_init_21 rfl ?_
  refine va_newa (atype := .int) (ty := .int) (N' := 9) (a0 := (9, .inl (fun _ => 0))) hx hb (htA _ q112) rfl hK hP hD hS hA (fun cA => rfl) (by decide) (by decide) (by decide) (Nat.le_of_ble_eq_true rfl) (Nat.le_of_ble_eq_true rfl) dX4_init_23 (fun q2 c2 H hK hP hD hS => ?_)
  have hP : va_P D vwCl [(h0, .inr (4, [.null, .null, .int 0, .int 0, .int 0, .ref q0, .ref q1, .null, .null, .null, .null])), (q0, .inl (c0, (9, .inl (fun _ => 0)))), (q1, .inl (c1, (9, .inl (fun _ => 0)))), (q2, .inl (c2, (9, .inl (fun _ => 0))))] H := hP
  have hD : va_D A [(h0, .inr (4, [.null, .null, .int 0, .int 0, .int 0, .ref q0, .ref q1, .null, .null, .null, .null])), (q0, .inl (c0, (9, .inl (fun _ => 0)))), (q1, .inl (c1, (9, .inl (fun _ => 0)))), (q2, .inl (c2, (9, .inl (fun _ => 0))))] := hD
  have hK : va_K D vwCl [(c0, .int), (c1, .int), (c2, .int)] s := hK
  refine va_putF (ci := 4) (v := .ref q2) (ty := .array .int) (C := RX4) (T := TX4) (N := 11) hx hb htA inX4 tyX4 tyX4_ok nmX4 hown hK hP hD hS 0 rfl rfl 7 (by decide) (htA _ q134) (fun _ h9 => h9) rfl hin rfl (by decide +kernel) rfl rfl (Nat.le_of_ble_eq_true rfl) dX4_init_25 (fun H locs hP hD hS => ?_)
  have hP : va_P D vwCl [(h0, .inr (4, [.null, .null, .int 0, .int 0, .int 0, .ref q0, .ref q1, .ref q2, .null, .null, .null])), (q0, .inl (c0, (9, .inl (fun _ => 0)))), (q1, .inl (c1, (9, .inl (fun _ => 0)))), (q2, .inl (c2, (9, .inl (fun _ => 0))))] H := hP
  have hD : va_D A [(h0, .inr (4, [.null, .null, .int 0, .int 0, .int 0, .ref q0, .ref q1, .ref q2, .null, .null, .null])), (q0, .inl (c0, (9, .inl (fun _ => 0)))), (q1, .inl (c1, (9, .inl (fun _ => 0)))), (q2, .inl (c2, (9, .inl (fun _ => 0))))] := hD
  refine lv_aload_n hx hb dX4_init_28 rfl (lv_at hl 0 rfl) ?_
  refine lv_bipush hx hb dX4_init_29 rfl ?_
  refine va_newa (atype := .int) (ty := .int) (N' := 9) (a0 := (9, .inl (fun _ => 0))) hx hb (htA _ q112) rfl hK hP hD hS hA (fun cA => rfl) (by decide) (by decide) (by decide) (Nat.le_of_ble_eq_true rfl) (Nat.le_of_ble_eq_true rfl) dX4_init_31 (fun q3 c3 H hK hP hD hS => ?_)
  have hP : va_P D vwCl [(h0, .inr (4, [.null, .null, .int 0, .int 0, .int 0, .ref q0, .ref q1, .ref q2, .null, .null, .null])), (q0, .inl (c0, (9, .inl (fun _ => 0)))), (q1, .inl (c1, (9, .inl (fun _ => 0)))), (q2, .inl (c2, (9, .inl (fun _ => 0)))), (q3, .inl (c3, (9, .inl (fun _ => 0))))] H := hP
  have hD : va_D A [(h0, .inr (4, [.null, .null, .int 0, .int 0, .int 0, .ref q0, .ref q1, .ref q2, .null, .null, .null])), (q0, .inl (c0, (9, .inl (fun _ => 0)))), (q1, .inl (c1, (9, .inl (fun _ => 0)))), (q2, .inl (c2, (9, .inl (fun _ => 0)))), (q3, .inl (c3, (9, .inl (fun _ => 0))))] := hD
  have hK : va_K D vwCl [(c0, .int), (c1, .int), (c2, .int), (c3, .int)] s := hK
  refine va_putF (ci := 4) (v := .ref q3) (ty := .array .int) (C := RX4) (T := TX4) (N := 11) hx hb htA inX4 tyX4 tyX4_ok nmX4 hown hK hP hD hS 0 rfl rfl 8 (by decide) (htA _ q137) (fun _ h9 => h9) rfl hin rfl (by decide +kernel) rfl rfl (Nat.le_of_ble_eq_true rfl) dX4_init_33 (fun H locs hP hD hS => ?_)
  have hP : va_P D vwCl [(h0, .inr (4, [.null, .null, .int 0, .int 0, .int 0, .ref q0, .ref q1, .ref q2, .ref q3, .null, .null])), (q0, .inl (c0, (9, .inl (fun _ => 0)))), (q1, .inl (c1, (9, .inl (fun _ => 0)))), (q2, .inl (c2, (9, .inl (fun _ => 0)))), (q3, .inl (c3, (9, .inl (fun _ => 0))))] H := hP
  have hD : va_D A [(h0, .inr (4, [.null, .null, .int 0, .int 0, .int 0, .ref q0, .ref q1, .ref q2, .ref q3, .null, .null])), (q0, .inl (c0, (9, .inl (fun _ => 0)))), (q1, .inl (c1, (9, .inl (fun _ => 0)))), (q2, .inl (c2, (9, .inl (fun _ => 0)))), (q3, .inl (c3, (9, .inl (fun _ => 0))))] := hD
  refine lv_aload_n hx hb dX4_init_36 rfl (lv_at hl 0 rfl) ?_
  refine lv_bipush hx hb dX4_init_37 rfl ?_
  refine va_newa (atype := .int) (ty := .int) (N' := 9) (a0 := (9, .inl (fun _ => 0))) hx hb (htA _ q112) rfl hK hP hD hS hA (fun cA => rfl) (by decide) (by decide) (by decide) (Nat.le_of_ble_eq_true rfl) (Nat.le_of_ble_eq_true rfl) dX4_init_39 (fun q4 c4 H hK hP hD hS => ?_)
  have hP : va_P D vwCl [(h0, .inr (4, [.null, .null, .int 0, .int 0, .int 0, .ref q0, .ref q1, .ref q2, .ref q3, .null, .null])), (q0, .inl (c0, (9, .inl (fun _ => 0)))), (q1, .inl (c1, (9, .inl (fun _ => 0)))), (q2, .inl (c2, (9, .inl (fun _ => 0)))), (q3, .inl (c3, (9, .inl (fun _ => 0)))), (q4, .inl (c4, (9, .inl (fun _ => 0))))] H := hP
  have hD : va_D A [(h0, .inr (4, [.null, .null, .int 0, .int 0, .int 0, .ref q0, .ref q1, .ref q2, .ref q3, .null, .null])), (q0, .inl (c0, (9, .inl (fun _ => 0)))), (q1, .inl (c1, (9, .inl (fun _ => 0)))), (q2, .inl (c2, (9, .inl (fun _ => 0)))), (q3, .inl (c3, (9, .inl (fun _ => 0)))), (q4, .inl (c4, (9, .inl (fun _ => 0))))] := hD
  have hK : va_K D vwCl [(c0, .int), (c1, .int), (c2, .int), (c3, .int), (c4, .int)] s := hK
  refine va_putF (ci := 4) (v := .ref q4) (ty := .array .int) (C := RX4) (T := TX4) (N := 11) hx hb htA inX4 tyX4 tyX4_ok nmX4 hown hK hP hD hS 0 rfl rfl 9 (by decide) (htA _ q139) (fun _ h9 => h9) rfl hin rfl (by decide +kernel) rfl rfl (Nat.le_of_ble_eq_true rfl) dX4_init_41 (fun H locs hP hD hS => ?_)
  have hP : va_P D vwCl [(h0, .inr (4, [.null, .null, .int 0, .int 0, .int 0, .ref q0, .ref q1, .ref q2, .ref q3, .ref q4, .null])), (q0, .inl (c0, (9, .inl (fun _ => 0)))), (q1, .inl (c1, (9, .inl (fun _ => 0)))), (q2, .inl (c2, (9, .inl (fun _ => 0)))), (q3, .inl (c3, (9, .inl (fun _ => 0)))), (q4, .inl (c4, (9, .inl (fun _ => 0))))] H := hP
  have hD : va_D A [(h0, .inr (4, [.null, .null, .int 0, .int 0, .int 0, .ref q0, .ref q1, .ref q2, .ref q3, .ref q4, .null])), (q0, .inl (c0, (9, .inl (fun _ => 0)))), (q1, .inl (c1, (9, .inl (fun _ => 0)))), (q2, .inl (c2, (9, .inl (fun _ => 0)))), (q3, .inl (c3, (9, .inl (fun _ => 0)))), (q4, .inl (c4, (9, .inl (fun _ => 0))))] := hD
  refine lv_aload_n hx hb dX4_init_44 rfl (lv_at hl 0 rfl) ?_
  refine lv_bipush hx hb dX4_init_45 rfl ?_
  refine va_newa (atype := .int) (ty := .int) (N' := 9) (a0 := (9, .inl (fun _ => 0))) hx hb (htA _ q112) rfl hK hP hD hS hA (fun cA => rfl) (by decide) (by decide) (by decide) (Nat.le_of_ble_eq_true rfl) (Nat.le_of_ble_eq_true rfl) dX4_init_47 (fun q5 c5 H hK hP hD hS => ?_)
  have hP : va_P D vwCl [(h0, .inr (4, [.null, .null, .int 0, .int 0, .int 0, .ref q0, .ref q1, .ref q2, .ref q3, .ref q4, .null])), (q0, .inl (c0, (9, .inl (fun _ => 0)))), (q1, .inl (c1, (9, .inl (fun _ => 0)))), (q2, .inl (c2, (9, .inl (fun _ => 0)))), (q3, .inl (c3, (9, .inl (fun _ => 0)))), (q4, .inl (c4, (9, .inl (fun _ => 0)))), (q5, .inl (c5, (9, .inl (fun _ => 0))))] H := hP
  have hD : va_D A [(h0, .inr (4, [.null, .null, .int 0, .int 0, .int 0, .ref q0, .ref q1, .ref q2, .ref q3, .ref q4, .null])), (q0, .inl (c0, (9, .inl (fun _ => 0)))), (q1, .inl (c1, (9, .inl (fun _ => 0)))), (q2, .inl (c2, (9, .inl (fun _ => 0)))), (q3, .inl (c3, (9, .inl (fun _ => 0)))), (q4, .inl (c4, (9, .inl (fun _ => 0)))), (q5, .inl (c5, (9, .inl (fun _ => 0))))] := hD
  have hK : va_K D vwCl [(c0, .int), (c1, .int), (c2, .int), (c3, .int), (c4, .int), (c5, .int)] s := hK
  refine va_putF (ci := 4) (v := .ref q5) (ty := .array .int) (C := RX4) (T := TX4) (N := 11) hx hb htA inX4 tyX4 tyX4_ok nmX4 hown hK hP hD hS 0 rfl rfl 10 (by decide) (htA _ q141) (fun _ h9 => h9) rfl hin rfl (by decide +kernel) rfl rfl (Nat.le_of_ble_eq_true rfl) dX4_init_49 (fun H locs hP hD hS => ?_)
  have hP : va_P D vwCl [(h0, .inr (4, [.null, .null, .int 0, .int 0, .int 0, .ref q0, .ref q1, .ref q2, .ref q3, .ref q4, .ref q5])), (q0, .inl (c0, (9, .inl (fun _ => 0)))), (q1, .inl (c1, (9, .inl (fun _ => 0)))), (q2, .inl (c2, (9, .inl (fun _ => 0)))), (q3, .inl (c3, (9, .inl (fun _ => 0)))), (q4, .inl (c4, (9, .inl (fun _ => 0)))), (q5, .inl (c5, (9, .inl (fun _ => 0))))] H := hP
  have hD : va_D A [(h0, .inr (4, [.null, .null, .int 0, .int 0, .int 0, .ref q0, .ref q1, .ref q2, .ref q3, .ref q4, .ref q5])), (q0, .inl (c0, (9, .inl (fun _ => 0)))), (q1, .inl (c1, (9, .inl (fun _ => 0)))), (q2, .inl (c2, (9, .inl (fun _ => 0)))), (q3, .inl (c3, (9, .inl (fun _ => 0)))), (q4, .inl (c4, (9, .inl (fun _ => 0)))), (q5, .inl (c5, (9, .inl (fun _ => 0))))] := hD
  refine lv_aload_n hx hb dX4_init_52 rfl (lv_at hl 0 rfl) ?_
  refine lv_aload_n hx hb dX4_init_53 rfl (lv_at hl 1 rfl) ?_
  refine va_putF (ci := 4) (v := .ref a) (ty := .object "LeftoverRule$Law") (C := RX4) (T := TX4) (N := 11) hx hb htA inX4 tyX4 tyX4_ok nmX4 hown hK hP hD hS 0 rfl rfl 0 (by decide) (htA _ q119) (fun _ h9 => h9) rfl hin rfl (by decide +kernel) rfl rfl (Nat.le_of_ble_eq_true rfl) dX4_init_54 (fun H locs hP hD hS => ?_)
  refine lv_aload_n hx hb dX4_init_57 rfl (lv_at hl 0 rfl) ?_
  refine lv_aload_n hx hb dX4_init_58 rfl (lv_at hl 2 rfl) ?_
  refine va_putF (ci := 4) (v := .ref b) (ty := .object "LeftoverRule$Law") (C := RX4) (T := TX4) (N := 11) hx hb htA inX4 tyX4 tyX4_ok nmX4 hown hK hP hD hS 0 rfl rfl 1 (by decide) (htA _ q120) (fun _ h9 => h9) rfl hin rfl (by decide +kernel) rfl rfl (Nat.le_of_ble_eq_true rfl) dX4_init_59 (fun H locs hP hD hS => ?_)
  have hP : va_P D vwCl (wTable h0 a b (fun k => if k = 0 then q0 else if k = 1 then q1 else if k = 2 then q2 else if k = 3 then q3 else if k = 4 then q4 else q5, fun k => if k = 0 then c0 else if k = 1 then c1 else if k = 2 then c2 else if k = 3 then c3 else if k = 4 then c4 else c5)) H := hP
  have hD : va_D A (wTable h0 a b (fun k => if k = 0 then q0 else if k = 1 then q1 else if k = 2 then q2 else if k = 3 then q3 else if k = 4 then q4 else q5, fun k => if k = 0 then c0 else if k = 1 then c1 else if k = 2 then c2 else if k = 3 then c3 else if k = 4 then c4 else c5)) := hD
  exact W.vret hx hb hr (fun t ht hW => ⟨⟨(fun k => if k = 0 then q0 else if k = 1 then q1 else if k = 2 then q2 else if k = 3 then q3 else if k = 4 then q4 else q5, fun k => if k = 0 then c0 else if k = 1 then c1 else if k = 2 then c2 else if k = 3 then c3 else if k = 4 then c4 else c5), rfl, trivial, by rw [ht]; exact hP, va_K.moved hW.alike hK, hD⟩, hS.F ht⟩) hS.2.2 dX4_init_62
