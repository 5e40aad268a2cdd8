/-! CONSTRUCTORS -/
def wSheet (h0 : Nat) (u : Nat × ClassId) : va_W := [(h0, .inr (3, [.int 0, .int 0, .ref u.1])), (u.1, .inl (u.2, (24, .inl (fun _ => 0))))]
set_option maxHeartbeats 4000000 in
set_option maxRecDepth 100000 in
theorem c_X3_init (l : Launch) (D : va_G) (h0 sz : Nat) : Met l yX3_init (Cond.code yX3_init cX3_init 1 none :: AW) { frames := 1, cells := 1, slots := 24, locals := 12 } (va_Pc [.ref h0] (fun U => U.heap.size = sz ∧ va_P D vwCl [(h0, .inr (3, [.int 0, .int 0, .null]))] U.heap ∧ va_K D vwCl [] U ∧ va_D (fun _ => True) [(h0, .inr (3, [.int 0, .int 0, .null]))])) (va_Qv (fun _ : Nat × ClassId => True) (fun u t => va_P D vwCl (wSheet h0 u) t.heap ∧ va_K D vwCl [(u.2, .int)] t ∧ va_D (va_A [(h0, .inr (3, [.int 0, .int 0, .null]))] sz) (wSheet h0 u)) (va_A [(h0, .inr (3, [.int 0, .int 0, .null]))] sz)) 1 24 (va_A [(h0, .inr (3, [.int 0, .int 0, .null]))] sz) := by
  refine Met.ofW (cc := cX3_init) (maxL := 1) (ret := none) (by decide) rfl ?_
  intro p e s m args below meth c s₁ B hml hv
  obtain ⟨rfl, hsz, hP, hK, hD0⟩ := hv
  have hx := B.exec
  have hb := B.bytes
  have hr := B.returns
  have hts := atoms_spec (ws := Cond.code yX3_init cX3_init 1 none :: AW) B.pre
  have hown : s.vm.findClass RX3 = some m.cls := findClass_of_methodNamed B.named
  have hlocks := B.notSynchronized
  have hin : meth.name = "<init>" := (name_of_methodNamed B.named B.method).1
  subst hsz
  have hD := hD0.self (sz := s.heap.size)
  generalize hAe : va_A [(h0, .inr (3, [.int 0, .int 0, .null]))] s.heap.size = A at hD ⊢
  have hA : ∀ q : Nat, s.heap.size ≤ q → A q := fun q h => by rw [← hAe]; exact Or.inr h
  have hS : va_S A s.heap s.heap [] := va_S.rf
  have hP : va_P D vwCl [(h0, .inr (3, [.int 0, .int 0, .null]))] s.heap := hP
  have hl := lv_entry ([.ref h0]) (n := 1) (Nat.le_of_ble_eq_true rfl)
  rw [lg_entry_eq]
  generalize (lg_sl ([.ref h0]) ++ List.replicate (1 - (lg_sl ([.ref h0])).length) Slot.unset).toArray = ls at hl ⊢
  have hl : lv_has ls 1 [(0, .ref h0)] := hl
  have htA : ∀ w ∈ AW, w.before #[Value.ref h0] s = true := fun w hw => hts w (List.mem_cons_of_mem _ hw)
  refine lv_aload_n hx hb dX3_init_0 rfl (lv_at hl 0 rfl) ?_
  refine W.objInit hx hb hown (htA _ q262) (htA _ q82) (htA _ q83) rfl (by rw [hml]; exact hl.1) rfl dX3_init_1 (Nat.le_of_ble_eq_true rfl) (Nat.le_of_ble_eq_true rfl) ?_
  refine W.eq (g2 := F0 m 4 ls []) rfl ?_
  refine lv_aload_n hx hb dX3_init_4 rfl (lv_at hl 0 rfl) ?_
  refine lv_bipush hx hb dX3_init_5 rfl ?_
  have h_1 : 1 ≤ 1 := by decide
  refine va_newa (atype := .int) (ty := .int) (N' := 24) (a0 := (24, .inl (fun _ => 0))) hx hb (htA _ q112) rfl hK hP hD hS hA (fun cA => rfl) (by decide) (by decide) (by decide) h_1 (Nat.le_of_ble_eq_true rfl) dX3_init_7 (fun q cA H hK hP hD hS => ?_)
  have hP : va_P D vwCl [(h0, .inr (3, [.int 0, .int 0, .null])), (q, .inl (cA, (24, .inl (fun _ => 0))))] H := hP
  have hD : va_D A [(h0, .inr (3, [.int 0, .int 0, .null])), (q, .inl (cA, (24, .inl (fun _ => 0))))] := hD
  have hK : va_K D vwCl [(cA, .int)] s := hK
  refine va_putF (ci := 3) (v := .ref q) (ty := .array .int) (C := RX3) (T := TX3) (N := 3) hx hb htA inX3 tyX3 tyX3_ok nmX3 hown hK hP hD hS 0 rfl rfl 2 (by decide) (htA _ q267) (fun _ h9 => h9) rfl hin rfl (by decide +kernel) rfl rfl (Nat.le_of_ble_eq_true rfl) dX3_init_9 (fun H locs hP hD hS => ?_)
  have hP : va_P D vwCl (wSheet h0 (q, cA)) H := hP
  have hD : va_D A (wSheet h0 (q, cA)) := hD
  exact W.vret hx hb hr (fun t ht hW => ⟨⟨(q, cA), rfl, trivial, by rw [ht]; exact hP, va_K.moved hW.alike hK, hD⟩, hS.F ht⟩) hS.2.2 dX3_init_12
def wVoices (h0 : Nat) (u : Nat × ClassId) : va_W := [(h0, .inr (5, [.ref u.1, .int 0, .int 0, .int 0, .int 0, .int 0])), (u.1, .inl (u.2, (30, .inl (fun _ => 0))))]
def zVoices (h0 : Nat) : va_W := [(h0, .inr (5, [.null, .int 0, .int 0, .int 0, .int 0, .int 0]))]
set_option maxHeartbeats 4000000 in
set_option maxRecDepth 100000 in
theorem c_X5_init (l : Launch) (D : va_G) (h0 sz : Nat) : Met l yX5_init (Cond.code yX5_init cX5_init 1 none :: AW) { frames := 1, cells := 1, slots := 30, locals := 12 } (va_Pc [.ref h0] (fun U => U.heap.size = sz ∧ va_P D vwCl (zVoices h0) U.heap ∧ va_K D vwCl [] U ∧ va_D (fun _ => True) (zVoices h0))) (va_Qv (fun _ : Nat × ClassId => True) (fun u t => va_P D vwCl (wVoices h0 u) t.heap ∧ va_K D vwCl [(u.2, .int)] t ∧ va_D (va_A (zVoices h0) sz) (wVoices h0 u)) (va_A (zVoices h0) sz)) 1 30 (va_A (zVoices h0) sz) := by
  refine Met.ofW (cc := cX5_init) (maxL := 1) (ret := none) (by decide) rfl ?_
  intro p e s m args below meth c s₁ B hml hv
  obtain ⟨rfl, hsz, hP, hK, hD0⟩ := hv
  have hx := B.exec
  have hb := B.bytes
  have hr := B.returns
  have hts := atoms_spec (ws := Cond.code yX5_init cX5_init 1 none :: AW) B.pre
  have hown : s.vm.findClass RX5 = some m.cls := findClass_of_methodNamed B.named
  have hlocks := B.notSynchronized
  have hin : meth.name = "<init>" := (name_of_methodNamed B.named B.method).1
  subst hsz
  have hD := hD0.self (sz := s.heap.size)
  generalize hAe : va_A (zVoices h0) s.heap.size = A at hD ⊢
  have hA : ∀ q : Nat, s.heap.size ≤ q → A q := fun q h => by rw [← hAe]; exact Or.inr h
  have hS : va_S A s.heap s.heap [] := va_S.rf
  have hP : va_P D vwCl (zVoices h0) s.heap := hP
  have hl := lv_entry ([.ref h0]) (n := 1) (Nat.le_of_ble_eq_true rfl)
  rw [lg_entry_eq]
  generalize (lg_sl ([.ref h0]) ++ List.replicate (1 - (lg_sl ([.ref h0])).length) Slot.unset).toArray = ls at hl ⊢
  have hl : lv_has ls 1 [(0, .ref h0)] := hl
  have htA : ∀ w ∈ AW, w.before #[Value.ref h0] s = true := fun w hw => hts w (List.mem_cons_of_mem _ hw)
  refine lv_aload_n hx hb dX5_init_0 rfl (lv_at hl 0 rfl) ?_
  refine W.objInit hx hb hown (htA _ q233) (htA _ q82) (htA _ q83) rfl (by rw [hml]; exact hl.1) rfl dX5_init_1 (Nat.le_of_ble_eq_true rfl) (Nat.le_of_ble_eq_true rfl) ?_
  refine W.eq (g2 := F0 m 4 ls []) rfl ?_
  refine lv_aload_n hx hb dX5_init_4 rfl (lv_at hl 0 rfl) ?_
  refine lv_bipush hx hb dX5_init_5 rfl ?_
  refine va_newa (atype := .int) (ty := .int) (N' := 30) (a0 := (30, .inl (fun _ => 0))) hx hb (htA _ q112) rfl hK hP hD hS hA (fun cA => rfl) (by decide) (by decide) (by decide) (Nat.le_of_ble_eq_true rfl) (Nat.le_of_ble_eq_true rfl) dX5_init_7 (fun q cA H hK hP hD hS => ?_)
  have hP : va_P D vwCl [(h0, .inr (5, [.null, .int 0, .int 0, .int 0, .int 0, .int 0])), (q, .inl (cA, (30, .inl (fun _ => 0))))] H := hP
  have hD : va_D A [(h0, .inr (5, [.null, .int 0, .int 0, .int 0, .int 0, .int 0])), (q, .inl (cA, (30, .inl (fun _ => 0))))] := hD
  have hK : va_K D vwCl [(cA, .int)] s := hK
  refine va_putF (ci := 5) (v := .ref q) (ty := .array .int) (C := RX5) (T := TX5) (N := 6) hx hb htA inX5 tyX5 tyX5_ok nmX5 hown hK hP hD hS 0 rfl rfl 0 (by decide) (htA _ q234) (fun _ h9 => h9) rfl hin rfl (by decide +kernel) rfl rfl (Nat.le_of_ble_eq_true rfl) dX5_init_9 (fun H locs hP hD hS => ?_)
  have hP : va_P D vwCl (wVoices h0 (q, cA)) H := hP
  have hD : va_D A (wVoices h0 (q, cA)) := hD
  exact W.vret hx hb hr (fun t ht hW => ⟨⟨(q, cA), rfl, trivial, by rw [ht]; exact hP, va_K.moved hW.alike hK, hD⟩, hS.F ht⟩) hS.2.2 dX5_init_12
def zLaw (h0 : Nat) : va_W := [(h0, .inr (1, [.int 0, .int 0, .null, .null, .int 0]))]
def wLaw (h0 : Nat) (x f : Int32) (u : Nat × Nat × ClassId × ClassId) : va_W := [(h0, .inr (1, [.int x, .int f, .ref u.1, .ref u.2.1, .int 0])), (u.1, .inl (u.2.2.1, (60, .inl (fun _ => 0)))), (u.2.1, .inl (u.2.2.2, (60, .inl (fun _ => 0))))]
set_option maxHeartbeats 4000000 in
set_option maxRecDepth 100000 in
theorem c_X1_init (l : Launch) (D : va_G) (h0 sz : Nat) (x f : Int32) (hf : f = 0 ∨ f = 1) : Met l yX1_init (Cond.code yX1_init cX1_init 3 none :: AW) { frames := 1, cells := 2, slots := 120, locals := 12 } (va_Pc [.ref h0, .int x, .int f] (fun U => U.heap.size = sz ∧ va_P D vwCl (zLaw h0) U.heap ∧ va_K D vwCl [] U ∧ va_D (fun _ => True) (zLaw h0))) (va_Qv (fun _ : Nat × Nat × ClassId × ClassId => True) (fun u t => va_P D vwCl (wLaw h0 x f u) t.heap ∧ va_K D vwCl [(u.2.2.1, .int), (u.2.2.2, .int)] t ∧ va_D (va_A (zLaw h0) sz) (wLaw h0 x f u)) (va_A (zLaw h0) sz)) 2 120 (va_A (zLaw h0) sz) := by
  refine Met.ofW (cc := cX1_init) (maxL := 3) (ret := none) (by decide) rfl ?_
  intro p e s m args below meth c s₁ B hml hv
  obtain ⟨rfl, hsz, hP, hK, hD0⟩ := hv
  have hx := B.exec
  have hb := B.bytes
  have hr := B.returns
  have hts := atoms_spec (ws := Cond.code yX1_init cX1_init 3 none :: AW) B.pre
  have hown : s.vm.findClass RX1 = some m.cls := findClass_of_methodNamed B.named
  have hlocks := B.notSynchronized
  have hin : meth.name = "<init>" := (name_of_methodNamed B.named B.method).1
  subst hsz
  have hD := hD0.self (sz := s.heap.size)
  generalize hAe : va_A (zLaw h0) s.heap.size = A at hD ⊢
  have hA : ∀ q : Nat, s.heap.size ≤ q → A q := fun q h => by rw [← hAe]; exact Or.inr h
  have hS : va_S A s.heap s.heap [] := va_S.rf
  have hP : va_P D vwCl (zLaw h0) s.heap := hP
  have hl := lv_entry ([.ref h0, .int x, .int f]) (n := 3) (Nat.le_of_ble_eq_true rfl)
  rw [lg_entry_eq]
  generalize (lg_sl ([.ref h0, .int x, .int f]) ++ List.replicate (3 - (lg_sl ([.ref h0, .int x, .int f])).length) Slot.unset).toArray = ls at hl ⊢
  have hl : lv_has ls 3 [(0, .ref h0), (1, .int x), (2, .int f)] := hl
  have htA : ∀ w ∈ AW, w.before #[Value.ref h0, .int x, .int f] s = true := fun w hw => hts w (List.mem_cons_of_mem _ hw)
  refine lv_aload_n hx hb dX1_init_0 rfl (lv_at hl 0 rfl) ?_
  refine W.objInit hx hb hown (htA _ q95) (htA _ q82) (htA _ q83) rfl (by rw [hml]; exact hl.1) rfl dX1_init_1 (Nat.le_of_ble_eq_true rfl) (Nat.le_of_ble_eq_true rfl) ?_
  refine W.eq (g2 := F0 m 4 ls []) rfl ?_
  refine lv_aload_n hx hb dX1_init_4 rfl (lv_at hl 0 rfl) ?_
  refine lv_bipush hx hb dX1_init_5 rfl ?_
  refine va_newa (atype := .int) (ty := .int) (N' := 60) (a0 := (60, .inl (fun _ => 0))) hx hb (htA _ q112) rfl hK hP hD hS hA (fun cA => rfl) (by decide) (by decide) (by decide) (Nat.le_of_ble_eq_true rfl) (Nat.le_of_ble_eq_true rfl) dX1_init_7 (fun q1 cA H hK hP hD hS => ?_)
  have hP : va_P D vwCl [(h0, .inr (1, [.int 0, .int 0, .null, .null, .int 0])), (q1, .inl (cA, (60, .inl (fun _ => 0))))] H := hP
  have hD : va_D A [(h0, .inr (1, [.int 0, .int 0, .null, .null, .int 0])), (q1, .inl (cA, (60, .inl (fun _ => 0))))] := hD
  have hK : va_K D vwCl [(cA, .int)] s := hK
  refine va_putF (ci := 1) (v := .ref q1) (ty := .array .int) (C := RX1) (T := TX1) (N := 5) hx hb htA inX1 tyX1 tyX1_ok nmX1 hown hK hP hD hS 0 rfl rfl 2 (by decide) (htA _ q98) (fun _ h9 => h9) rfl hin rfl (by decide +kernel) rfl rfl (Nat.le_of_ble_eq_true rfl) dX1_init_9 (fun H locs hP hD hS => ?_)
  have hP : va_P D vwCl [(h0, .inr (1, [.int 0, .int 0, .ref q1, .null, .int 0])), (q1, .inl (cA, (60, .inl (fun _ => 0))))] H := hP
  have hD : va_D A [(h0, .inr (1, [.int 0, .int 0, .ref q1, .null, .int 0])), (q1, .inl (cA, (60, .inl (fun _ => 0))))] := hD
  refine lv_aload_n hx hb dX1_init_12 rfl (lv_at hl 0 rfl) ?_
  refine lv_bipush hx hb dX1_init_13 rfl ?_
  refine va_newa (atype := .int) (ty := .int) (N' := 60) (a0 := (60, .inl (fun _ => 0))) hx hb (htA _ q112) rfl hK hP hD hS hA (fun cA => rfl) (by decide) (by decide) (by decide) (Nat.le_of_ble_eq_true rfl) (Nat.le_of_ble_eq_true rfl) dX1_init_15 (fun q2 cB H hK hP hD hS => ?_)
  have hP : va_P D vwCl [(h0, .inr (1, [.int 0, .int 0, .ref q1, .null, .int 0])), (q1, .inl (cA, (60, .inl (fun _ => 0)))), (q2, .inl (cB, (60, .inl (fun _ => 0))))] H := hP
  have hD : va_D A [(h0, .inr (1, [.int 0, .int 0, .ref q1, .null, .int 0])), (q1, .inl (cA, (60, .inl (fun _ => 0)))), (q2, .inl (cB, (60, .inl (fun _ => 0))))] := hD
  have hK : va_K D vwCl [(cA, .int), (cB, .int)] s := hK
  refine va_putF (ci := 1) (v := .ref q2) (ty := .array .int) (C := RX1) (T := TX1) (N := 5) hx hb htA inX1 tyX1 tyX1_ok nmX1 hown hK hP hD hS 0 rfl rfl 3 (by decide) (htA _ q99) (fun _ h9 => h9) rfl hin rfl (by decide +kernel) rfl rfl (Nat.le_of_ble_eq_true rfl) dX1_init_17 (fun H locs hP hD hS => ?_)
  refine lv_aload_n hx hb dX1_init_20 rfl (lv_at hl 0 rfl) ?_
  refine lv_iload_n hx hb dX1_init_21 rfl (lv_at hl 1 rfl) ?_
  refine va_putF (ci := 1) (v := .int x) (ty := .int) (C := RX1) (T := TX1) (N := 5) hx hb htA inX1 tyX1 tyX1_ok nmX1 hown hK hP hD hS 0 rfl rfl 0 (by decide) (htA _ q96) (fun _ h9 => h9) rfl hin rfl (by decide +kernel) rfl rfl (Nat.le_of_ble_eq_true rfl) dX1_init_22 (fun H locs hP hD hS => ?_)
  refine lv_aload_n hx hb dX1_init_25 rfl (lv_at hl 0 rfl) ?_
  refine lv_iload_n hx hb dX1_init_26 rfl (lv_at hl 2 rfl) ?_
  have nf : narrow .boolean (.int f) = .int f := by rcases hf with rfl | rfl <;> rfl
  have ff : fits .boolean (.int f) = true := by rcases hf with rfl | rfl <;> rfl
  refine va_putF (ci := 1) (v := .int f) (ty := .boolean) (C := RX1) (T := TX1) (N := 5) hx hb htA inX1 tyX1 tyX1_ok nmX1 hown hK hP hD hS 0 rfl rfl 1 (by decide) (htA _ q97) (fun _ h9 => h9) rfl hin rfl (by decide +kernel) nf ff (Nat.le_of_ble_eq_true rfl) dX1_init_27 (fun H locs hP hD hS => ?_)
  have hP : va_P D vwCl (wLaw h0 x f (q1, q2, cA, cB)) H := hP
  have hD : va_D A (wLaw h0 x f (q1, q2, cA, cB)) := hD
  exact W.vret hx hb hr (fun t ht hW => ⟨⟨(q1, q2, cA, cB), rfl, trivial, by rw [ht]; exact hP, va_K.moved hW.alike hK, hD⟩, hS.F ht⟩) hS.2.2 dX1_init_30
