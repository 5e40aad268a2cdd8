/-! CONSTRUCTORS of Law, Sheet, Voices, Table -/
def wLaw (cI : ClassId) (h0 : Nat) (x f : Int32) (a b : Nat) : va_W := (h0, .inr (1, [.int x, .int f, .ref a, .ref b, .int 0])) :: [(a, .inl (cI, (60, .inl (fun _ => 0)))), (b, .inl (cI, (60, .inl (fun _ => 0))))]
def wSheet (cI : ClassId) (h0 : Nat) (a : Nat) : va_W := (h0, .inr (3, [.int 0, .int 0, .ref a])) :: [(a, .inl (cI, (24, .inl (fun _ => 0))))]
def wVoices (cI : ClassId) (h0 : Nat) (a : Nat) : va_W := (h0, .inr (5, [.ref a, .int 0, .int 0, .int 0, .int 0, .int 0])) :: [(a, .inl (cI, (30, .inl (fun _ => 0))))]
def wTable (cI : ClassId) (h0 x y : Nat) (a b c d e f : Nat) : va_W := (h0, .inr (4, [.ref x, .ref y, .int 0, .int 0, .int 0, .ref a, .ref b, .ref c, .ref d, .ref e, .ref f])) :: [(a, .inl (cI, (9, .inl (fun _ => 0)))), (b, .inl (cI, (9, .inl (fun _ => 0)))), (c, .inl (cI, (9, .inl (fun _ => 0)))), (d, .inl (cI, (9, .inl (fun _ => 0)))), (e, .inl (cI, (9, .inl (fun _ => 0)))), (f, .inl (cI, (9, .inl (fun _ => 0))))]
set_option maxHeartbeats 4000000 in
set_option maxRecDepth 100000 in
theorem n_X1_init (l : Launch) (D : va_G) (cI : ClassId) (h0 : Nat) (x : Int32) (f : Int32) (hf : f = 0 ∨ f = 1) : CN l yX1_init cX1_init 3 1 12 2 120 D cI [.int x, .int f] h0 (.inr (1, [.int 0, .int 0, .null, .null, .int 0])) (fun u => wLaw cI h0 x f (u.1 0) (u.1 1)) (fun _ => []) (fun _ => True) := by
  intro sz
  refine Met.ofW (cc := cX1_init) (maxL := 3) (ret := none) (by decide) rfl ?_
  intro p e s m args below meth c s₁ B hml hv
  obtain ⟨rfl, hsz, hP, hK, hD0, hX⟩ := hv
  have hx := B.exec
  have hb := B.bytes
  have hr := B.returns
  have hts := atoms_spec (ws := Cond.code yX1_init cX1_init 3 none :: AW) B.pre
  have hown : s.vm.findClass RX1 = some m.cls := findClass_of_methodNamed B.named
  have hin : meth.name = "<init>" := (name_of_methodNamed B.named B.method).1
  subst hsz
  have hD := hD0.self (sz := s.heap.size)
  generalize hAe : va_A [(h0, .inr (1, [.int 0, .int 0, .null, .null, .int 0]))] s.heap.size = A at hD ⊢
  have hA : ∀ q : Nat, s.heap.size ≤ q → A q := fun q h => by rw [← hAe]; exact Or.inr h
  have hS : va_S A s.heap s.heap [] := va_S.rf
  have hl := lv_entry ([.ref h0, .int x, .int f]) (n := 3) (Nat.le_of_ble_eq_true rfl)
  rw [lg_entry_eq]
  generalize (lg_sl ([.ref h0, .int x, .int f]) ++ List.replicate (3 - (lg_sl ([.ref h0, .int x, .int f])).length) Slot.unset).toArray = ls at hl ⊢
  have hl : lv_has ls 3 [(0, .ref h0), (1, .int x), (2, .int f)] := hl
  have htA : ∀ w ∈ AW, w.before #[Value.ref h0, .int x, .int f] s = true := fun w hw => hts w (List.mem_cons_of_mem _ hw)
  have SX : CallFix p m c cX1_init 3 s _ AW RX1 := ⟨hx, hb, hml, hown, htA⟩
  have hP : va_P D vwCl ((h0, .inr (1, [.int 0, .int 0, .null, .null, .int 0])) :: []) _ := hP
  have hD : va_D A ((h0, .inr (1, [.int 0, .int 0, .null, .null, .int 0])) :: []) := hD
  refine lv_aload_n hx hb dX1_init_0 rfl (lv_at hl 0 rfl) ?_
  refine W.objInit hx hb hown (htA _ q95) (htA _ q82) (htA _ q83) rfl (by rw [hml]; exact hl.1) rfl dX1_init_1 (Nat.le_of_ble_eq_true rfl) (Nat.le_of_ble_eq_true rfl) ?_
  refine W.eq (g2 := F0 m 4 ls []) rfl ?_
  refine lv_aload_n hx hb dX1_init_4 rfl (lv_at hl 0 rfl) ?_
  refine lv_bipush hx hb dX1_init_5 rfl ?_
  refine va_newa (atype := .int) (ty := .int) (N' := 60) (a0 := (60, .inl (fun _ => 0))) hx hb (htA _ q112) rfl hK hP hD hS hA (fun cA => rfl) (by decide) (by decide) (by decide) (Nat.le_of_ble_eq_true rfl) (Nat.le_of_ble_eq_true rfl) dX1_init_7 (fun q1 cA H hK1 hP hD hS => ?_)
  obtain rfl := ka_int hK1 0 1 rfl rfl
  have hP : va_P D vwCl ((h0, .inr (1, [.int 0, .int 0, .null, .null, .int 0])) :: [(q1, .inl (cI, (60, .inl (fun _ => 0))))]) _ := hP
  have hD : va_D A ((h0, .inr (1, [.int 0, .int 0, .null, .null, .int 0])) :: [(q1, .inl (cI, (60, .inl (fun _ => 0))))]) := hD
  refine va_putF (ci := 1) (v := .ref q1) (ty := .array .int) (C := RX1) (T := TX1) (N := 5) hx hb htA inX1 tyX1 tyX1_ok nmX1 hown hK hP hD hS 0 rfl rfl 2 (by decide) (htA _ q98) (fun _ h9 => h9) rfl hin rfl (by decide +kernel) rfl rfl (Nat.le_of_ble_eq_true rfl) dX1_init_9 (fun H locs hP hD hS => ?_)
  have hP : va_P D vwCl ((h0, .inr (1, [.int 0, .int 0, .ref q1, .null, .int 0])) :: [(q1, .inl (cI, (60, .inl (fun _ => 0))))]) _ := hP
  have hD : va_D A ((h0, .inr (1, [.int 0, .int 0, .ref q1, .null, .int 0])) :: [(q1, .inl (cI, (60, .inl (fun _ => 0))))]) := hD
  refine lv_aload_n hx hb dX1_init_12 rfl (lv_at hl 0 rfl) ?_
  refine lv_bipush hx hb dX1_init_13 rfl ?_
  refine va_newa (atype := .int) (ty := .int) (N' := 60) (a0 := (60, .inl (fun _ => 0))) hx hb (htA _ q112) rfl hK hP hD hS hA (fun cA => rfl) (by decide) (by decide) (by decide) (Nat.le_of_ble_eq_true rfl) (Nat.le_of_ble_eq_true rfl) dX1_init_15 (fun q2 cA H hK1 hP hD hS => ?_)
  obtain rfl := ka_int hK1 0 1 rfl rfl
  have hP : va_P D vwCl ((h0, .inr (1, [.int 0, .int 0, .ref q1, .null, .int 0])) :: [(q1, .inl (cI, (60, .inl (fun _ => 0)))), (q2, .inl (cI, (60, .inl (fun _ => 0))))]) _ := hP
  have hD : va_D A ((h0, .inr (1, [.int 0, .int 0, .ref q1, .null, .int 0])) :: [(q1, .inl (cI, (60, .inl (fun _ => 0)))), (q2, .inl (cI, (60, .inl (fun _ => 0))))]) := hD
  refine va_putF (ci := 1) (v := .ref q2) (ty := .array .int) (C := RX1) (T := TX1) (N := 5) hx hb htA inX1 tyX1 tyX1_ok nmX1 hown hK hP hD hS 0 rfl rfl 3 (by decide) (htA _ q99) (fun _ h9 => h9) rfl hin rfl (by decide +kernel) rfl rfl (Nat.le_of_ble_eq_true rfl) dX1_init_17 (fun H locs hP hD hS => ?_)
  have hP : va_P D vwCl ((h0, .inr (1, [.int 0, .int 0, .ref q1, .ref q2, .int 0])) :: [(q1, .inl (cI, (60, .inl (fun _ => 0)))), (q2, .inl (cI, (60, .inl (fun _ => 0))))]) _ := hP
  have hD : va_D A ((h0, .inr (1, [.int 0, .int 0, .ref q1, .ref q2, .int 0])) :: [(q1, .inl (cI, (60, .inl (fun _ => 0)))), (q2, .inl (cI, (60, .inl (fun _ => 0))))]) := hD
  refine lv_aload_n hx hb dX1_init_20 rfl (lv_at hl 0 rfl) ?_
  refine lv_iload_n hx hb dX1_init_21 rfl (lv_at hl 1 rfl) ?_
  refine va_putF (ci := 1) (v := .int x) (ty := .int) (C := RX1) (T := TX1) (N := 5) hx hb htA inX1 tyX1 tyX1_ok nmX1 hown hK hP hD hS 0 rfl rfl 0 (by decide) (htA _ q96) (fun _ h9 => h9) rfl hin rfl (by decide +kernel) rfl rfl (Nat.le_of_ble_eq_true rfl) dX1_init_22 (fun H locs hP hD hS => ?_)
  have hP : va_P D vwCl ((h0, .inr (1, [.int x, .int 0, .ref q1, .ref q2, .int 0])) :: [(q1, .inl (cI, (60, .inl (fun _ => 0)))), (q2, .inl (cI, (60, .inl (fun _ => 0))))]) _ := hP
  have hD : va_D A ((h0, .inr (1, [.int x, .int 0, .ref q1, .ref q2, .int 0])) :: [(q1, .inl (cI, (60, .inl (fun _ => 0)))), (q2, .inl (cI, (60, .inl (fun _ => 0))))]) := hD
  refine lv_aload_n hx hb dX1_init_25 rfl (lv_at hl 0 rfl) ?_
  refine lv_iload_n hx hb dX1_init_26 rfl (lv_at hl 2 rfl) ?_
  have nf : narrow .boolean (.int f) = .int f := by rcases hf with rfl | rfl <;> rfl
  have ff : fits .boolean (.int f) = true := by rcases hf with rfl | rfl <;> rfl
  refine va_putF (ci := 1) (v := .int f) (ty := .boolean) (C := RX1) (T := TX1) (N := 5) hx hb htA inX1 tyX1 tyX1_ok nmX1 hown hK hP hD hS 0 rfl rfl 1 (by decide) (htA _ q97) (fun _ h9 => h9) rfl hin rfl (by decide +kernel) nf ff (Nat.le_of_ble_eq_true rfl) dX1_init_27 (fun H locs hP hD hS => ?_)
  have hP : va_P D vwCl ((h0, .inr (1, [.int x, .int f, .ref q1, .ref q2, .int 0])) :: [(q1, .inl (cI, (60, .inl (fun _ => 0)))), (q2, .inl (cI, (60, .inl (fun _ => 0))))]) _ := hP
  have hD : va_D A ((h0, .inr (1, [.int x, .int f, .ref q1, .ref q2, .int 0])) :: [(q1, .inl (cI, (60, .inl (fun _ => 0)))), (q2, .inl (cI, (60, .inl (fun _ => 0))))]) := hD
  obtain ⟨u, hu⟩ : ∃ u : (Nat → Nat) × ClassId, u = (fun i => [q1, q2].getD i 0, cI) := ⟨_, rfl⟩
  have hP : va_P D vwCl (wLaw cI h0 x f (u.1 0) (u.1 1)) H := by subst hu; exact hP
  have hD : va_D A (wLaw cI h0 x f (u.1 0) (u.1 1)) := by subst hu; exact hD
  exact W.vret hx hb hr (fun t ht hW => ⟨⟨u, rfl, trivial, by rw [ht]; exact hP, va_K.moved hW.alike (hK.sub [] rfl), hD⟩, hS.F ht⟩) hS.2.2 dX1_init_30
set_option maxHeartbeats 4000000 in
set_option maxRecDepth 100000 in
theorem n_X3_init (l : Launch) (D : va_G) (cI : ClassId) (h0 : Nat) : CN l yX3_init cX3_init 1 1 12 1 24 D cI [] h0 (.inr (3, [.int 0, .int 0, .null])) (fun u => wSheet cI h0 (u.1 0)) (fun _ => []) (fun _ => True) := by
  intro sz
  refine Met.ofW (cc := cX3_init) (maxL := 1) (ret := none) (by decide) rfl ?_
  intro p e s m args below meth c s₁ B hml hv
  obtain ⟨rfl, hsz, hP, hK, hD0, hX⟩ := hv
  have hx := B.exec
  have hb := B.bytes
  have hr := B.returns
  have hts := atoms_spec (ws := Cond.code yX3_init cX3_init 1 none :: AW) B.pre
  have hown : s.vm.findClass RX3 = some m.cls := findClass_of_methodNamed B.named
  have hin : meth.name = "<init>" := (name_of_methodNamed B.named B.method).1
  subst hsz
  have hD := hD0.self (sz := s.heap.size)
  generalize hAe : va_A [(h0, .inr (3, [.int 0, .int 0, .null]))] s.heap.size = A at hD ⊢
  have hA : ∀ q : Nat, s.heap.size ≤ q → A q := fun q h => by rw [← hAe]; exact Or.inr h
  have hS : va_S A s.heap s.heap [] := va_S.rf
  have hl := lv_entry ([.ref h0]) (n := 1) (Nat.le_of_ble_eq_true rfl)
  rw [lg_entry_eq]
  generalize (lg_sl ([.ref h0]) ++ List.replicate (1 - (lg_sl ([.ref h0])).length) Slot.unset).toArray = ls at hl ⊢
  have hl : lv_has ls 1 [(0, .ref h0)] := hl
  have htA : ∀ w ∈ AW, w.before #[Value.ref h0] s = true := fun w hw => hts w (List.mem_cons_of_mem _ hw)
  have SX : CallFix p m c cX3_init 1 s _ AW RX3 := ⟨hx, hb, hml, hown, htA⟩
  have hP : va_P D vwCl ((h0, .inr (3, [.int 0, .int 0, .null])) :: []) _ := hP
  have hD : va_D A ((h0, .inr (3, [.int 0, .int 0, .null])) :: []) := hD
  refine lv_aload_n hx hb dX3_init_0 rfl (lv_at hl 0 rfl) ?_
  refine W.objInit hx hb hown (htA _ q262) (htA _ q82) (htA _ q83) rfl (by rw [hml]; exact hl.1) rfl dX3_init_1 (Nat.le_of_ble_eq_true rfl) (Nat.le_of_ble_eq_true rfl) ?_
  refine W.eq (g2 := F0 m 4 ls []) rfl ?_
  refine lv_aload_n hx hb dX3_init_4 rfl (lv_at hl 0 rfl) ?_
  refine lv_bipush hx hb dX3_init_5 rfl ?_
  refine va_newa (atype := .int) (ty := .int) (N' := 24) (a0 := (24, .inl (fun _ => 0))) hx hb (htA _ q112) rfl hK hP hD hS hA (fun cA => rfl) (by decide) (by decide) (by decide) (Nat.le_of_ble_eq_true rfl) (Nat.le_of_ble_eq_true rfl) dX3_init_7 (fun q1 cA H hK1 hP hD hS => ?_)
  obtain rfl := ka_int hK1 0 1 rfl rfl
  have hP : va_P D vwCl ((h0, .inr (3, [.int 0, .int 0, .null])) :: [(q1, .inl (cI, (24, .inl (fun _ => 0))))]) _ := hP
  have hD : va_D A ((h0, .inr (3, [.int 0, .int 0, .null])) :: [(q1, .inl (cI, (24, .inl (fun _ => 0))))]) := hD
  refine va_putF (ci := 3) (v := .ref q1) (ty := .array .int) (C := RX3) (T := TX3) (N := 3) hx hb htA inX3 tyX3 tyX3_ok nmX3 hown hK hP hD hS 0 rfl rfl 2 (by decide) (htA _ q267) (fun _ h9 => h9) rfl hin rfl (by decide +kernel) rfl rfl (Nat.le_of_ble_eq_true rfl) dX3_init_9 (fun H locs hP hD hS => ?_)
  have hP : va_P D vwCl ((h0, .inr (3, [.int 0, .int 0, .ref q1])) :: [(q1, .inl (cI, (24, .inl (fun _ => 0))))]) _ := hP
  have hD : va_D A ((h0, .inr (3, [.int 0, .int 0, .ref q1])) :: [(q1, .inl (cI, (24, .inl (fun _ => 0))))]) := hD
  obtain ⟨u, hu⟩ : ∃ u : (Nat → Nat) × ClassId, u = (fun i => [q1].getD i 0, cI) := ⟨_, rfl⟩
  have hP : va_P D vwCl (wSheet cI h0 (u.1 0)) H := by subst hu; exact hP
  have hD : va_D A (wSheet cI h0 (u.1 0)) := by subst hu; exact hD
  exact W.vret hx hb hr (fun t ht hW => ⟨⟨u, rfl, trivial, by rw [ht]; exact hP, va_K.moved hW.alike (hK.sub [] rfl), hD⟩, hS.F ht⟩) hS.2.2 dX3_init_12
set_option maxHeartbeats 4000000 in
set_option maxRecDepth 100000 in
theorem n_X5_init (l : Launch) (D : va_G) (cI : ClassId) (h0 : Nat) : CN l yX5_init cX5_init 1 1 12 1 30 D cI [] h0 (.inr (5, [.null, .int 0, .int 0, .int 0, .int 0, .int 0])) (fun u => wVoices cI h0 (u.1 0)) (fun _ => []) (fun _ => True) := by
  intro sz
  refine Met.ofW (cc := cX5_init) (maxL := 1) (ret := none) (by decide) rfl ?_
  intro p e s m args below meth c s₁ B hml hv
  obtain ⟨rfl, hsz, hP, hK, hD0, hX⟩ := hv
  have hx := B.exec
  have hb := B.bytes
  have hr := B.returns
  have hts := atoms_spec (ws := Cond.code yX5_init cX5_init 1 none :: AW) B.pre
  have hown : s.vm.findClass RX5 = some m.cls := findClass_of_methodNamed B.named
  have hin : meth.name = "<init>" := (name_of_methodNamed B.named B.method).1
  subst hsz
  have hD := hD0.self (sz := s.heap.size)
  generalize hAe : va_A [(h0, .inr (5, [.null, .int 0, .int 0, .int 0, .int 0, .int 0]))] s.heap.size = A at hD ⊢
  have hA : ∀ q : Nat, s.heap.size ≤ q → A q := fun q h => by rw [← hAe]; exact Or.inr h
  have hS : va_S A s.heap s.heap [] := va_S.rf
  have hl := lv_entry ([.ref h0]) (n := 1) (Nat.le_of_ble_eq_true rfl)
  rw [lg_entry_eq]
  generalize (lg_sl ([.ref h0]) ++ List.replicate (1 - (lg_sl ([.ref h0])).length) Slot.unset).toArray = ls at hl ⊢
  have hl : lv_has ls 1 [(0, .ref h0)] := hl
  have htA : ∀ w ∈ AW, w.before #[Value.ref h0] s = true := fun w hw => hts w (List.mem_cons_of_mem _ hw)
  have SX : CallFix p m c cX5_init 1 s _ AW RX5 := ⟨hx, hb, hml, hown, htA⟩
  have hP : va_P D vwCl ((h0, .inr (5, [.null, .int 0, .int 0, .int 0, .int 0, .int 0])) :: []) _ := hP
  have hD : va_D A ((h0, .inr (5, [.null, .int 0, .int 0, .int 0, .int 0, .int 0])) :: []) := hD
  refine lv_aload_n hx hb dX5_init_0 rfl (lv_at hl 0 rfl) ?_
  refine W.objInit hx hb hown (htA _ q233) (htA _ q82) (htA _ q83) rfl (by rw [hml]; exact hl.1) rfl dX5_init_1 (Nat.le_of_ble_eq_true rfl) (Nat.le_of_ble_eq_true rfl) ?_
  refine W.eq (g2 := F0 m 4 ls []) rfl ?_
  refine lv_aload_n hx hb dX5_init_4 rfl (lv_at hl 0 rfl) ?_
  refine lv_bipush hx hb dX5_init_5 rfl ?_
  refine va_newa (atype := .int) (ty := .int) (N' := 30) (a0 := (30, .inl (fun _ => 0))) hx hb (htA _ q112) rfl hK hP hD hS hA (fun cA => rfl) (by decide) (by decide) (by decide) (Nat.le_of_ble_eq_true rfl) (Nat.le_of_ble_eq_true rfl) dX5_init_7 (fun q1 cA H hK1 hP hD hS => ?_)
  obtain rfl := ka_int hK1 0 1 rfl rfl
  have hP : va_P D vwCl ((h0, .inr (5, [.null, .int 0, .int 0, .int 0, .int 0, .int 0])) :: [(q1, .inl (cI, (30, .inl (fun _ => 0))))]) _ := hP
  have hD : va_D A ((h0, .inr (5, [.null, .int 0, .int 0, .int 0, .int 0, .int 0])) :: [(q1, .inl (cI, (30, .inl (fun _ => 0))))]) := hD
  refine va_putF (ci := 5) (v := .ref q1) (ty := .array .int) (C := RX5) (T := TX5) (N := 6) hx hb htA inX5 tyX5 tyX5_ok nmX5 hown hK hP hD hS 0 rfl rfl 0 (by decide) (htA _ q234) (fun _ h9 => h9) rfl hin rfl (by decide +kernel) rfl rfl (Nat.le_of_ble_eq_true rfl) dX5_init_9 (fun H locs hP hD hS => ?_)
  have hP : va_P D vwCl ((h0, .inr (5, [.ref q1, .int 0, .int 0, .int 0, .int 0, .int 0])) :: [(q1, .inl (cI, (30, .inl (fun _ => 0))))]) _ := hP
  have hD : va_D A ((h0, .inr (5, [.ref q1, .int 0, .int 0, .int 0, .int 0, .int 0])) :: [(q1, .inl (cI, (30, .inl (fun _ => 0))))]) := hD
  obtain ⟨u, hu⟩ : ∃ u : (Nat → Nat) × ClassId, u = (fun i => [q1].getD i 0, cI) := ⟨_, rfl⟩
  have hP : va_P D vwCl (wVoices cI h0 (u.1 0)) H := by subst hu; exact hP
  have hD : va_D A (wVoices cI h0 (u.1 0)) := by subst hu; exact hD
  exact W.vret hx hb hr (fun t ht hW => ⟨⟨u, rfl, trivial, by rw [ht]; exact hP, va_K.moved hW.alike (hK.sub [] rfl), hD⟩, hS.F ht⟩) hS.2.2 dX5_init_12
set_option maxHeartbeats 4000000 in
set_option maxRecDepth 100000 in
theorem n_X4_init (l : Launch) (D : va_G) (cI : ClassId) (h0 : Nat) (a : Nat) (b : Nat) : CN l yX4_init cX4_init 3 1 12 6 54 D cI [.ref a, .ref b] h0 (.inr (4, [.null, .null, .int 0, .int 0, .int 0, .null, .null, .null, .null, .null, .null])) (fun u => wTable cI h0 a b (u.1 0) (u.1 1) (u.1 2) (u.1 3) (u.1 4) (u.1 5)) (fun _ => []) (fun _ => True) := by
  intro sz
  refine Met.ofW (cc := cX4_init) (maxL := 3) (ret := none) (by decide) rfl ?_
  intro p e s m args below meth c s₁ B hml hv
  obtain ⟨rfl, hsz, hP, hK, hD0, hX⟩ := hv
  have hx := B.exec
  have hb := B.bytes
  have hr := B.returns
  have hts := atoms_spec (ws := Cond.code yX4_init cX4_init 3 none :: AW) B.pre
  have hown : s.vm.findClass RX4 = some m.cls := findClass_of_methodNamed B.named
  have hin : meth.name = "<init>" := (name_of_methodNamed B.named B.method).1
  subst hsz
  have hD := hD0.self (sz := s.heap.size)
  generalize hAe : va_A [(h0, .inr (4, [.null, .null, .int 0, .int 0, .int 0, .null, .null, .null, .null, .null, .null]))] s.heap.size = A at hD ⊢
  have hA : ∀ q : Nat, s.heap.size ≤ q → A q := fun q h => by rw [← hAe]; exact Or.inr h
  have hS : va_S A s.heap s.heap [] := va_S.rf
  have hl := lv_entry ([.ref h0, .ref a, .ref b]) (n := 3) (Nat.le_of_ble_eq_true rfl)
  rw [lg_entry_eq]
  generalize (lg_sl ([.ref h0, .ref a, .ref b]) ++ List.replicate (3 - (lg_sl ([.ref h0, .ref a, .ref b])).length) Slot.unset).toArray = ls at hl ⊢
  have hl : lv_has ls 3 [(0, .ref h0), (1, .ref a), (2, .ref b)] := hl
  have htA : ∀ w ∈ AW, w.before #[Value.ref h0, .ref a, .ref b] s = true := fun w hw => hts w (List.mem_cons_of_mem _ hw)
  have SX : CallFix p m c cX4_init 3 s _ AW RX4 := ⟨hx, hb, hml, hown, htA⟩
  have hP : va_P D vwCl ((h0, .inr (4, [.null, .null, .int 0, .int 0, .int 0, .null, .null, .null, .null, .null, .null])) :: []) _ := hP
  have hD : va_D A ((h0, .inr (4, [.null, .null, .int 0, .int 0, .int 0, .null, .null, .null, .null, .null, .null])) :: []) := hD
  refine lv_aload_n hx hb dX4_init_0 rfl (lv_at hl 0 rfl) ?_
  refine W.objInit hx hb hown (htA _ q118) (htA _ q82) (htA _ q83) rfl (by rw [hml]; exact hl.1) rfl dX4_init_1 (Nat.le_of_ble_eq_true rfl) (Nat.le_of_ble_eq_true rfl) ?_
  refine W.eq (g2 := F0 m 4 ls []) rfl ?_
  refine lv_aload_n hx hb dX4_init_4 rfl (lv_at hl 0 rfl) ?_
  refine lv_bipush hx hb dX4_init_5 rfl ?_
  refine va_newa (atype := .int) (ty := .int) (N' := 9) (a0 := (9, .inl (fun _ => 0))) hx hb (htA _ q112) rfl hK hP hD hS hA (fun cA => rfl) (by decide) (by decide) (by decide) (Nat.le_of_ble_eq_true rfl) (Nat.le_of_ble_eq_true rfl) dX4_init_7 (fun q0 cA H hK1 hP hD hS => ?_)
  obtain rfl := ka_int hK1 0 1 rfl rfl
  have hP : va_P D vwCl ((h0, .inr (4, [.null, .null, .int 0, .int 0, .int 0, .null, .null, .null, .null, .null, .null])) :: [(q0, .inl (cI, (9, .inl (fun _ => 0))))]) _ := hP
  have hD : va_D A ((h0, .inr (4, [.null, .null, .int 0, .int 0, .int 0, .null, .null, .null, .null, .null, .null])) :: [(q0, .inl (cI, (9, .inl (fun _ => 0))))]) := hD
  refine va_putF (ci := 4) (v := .ref q0) (ty := .array .int) (C := RX4) (T := TX4) (N := 11) hx hb htA inX4 tyX4 tyX4_ok nmX4 hown hK hP hD hS 0 rfl rfl 5 (by decide) (htA _ q128) (fun _ h9 => h9) rfl hin rfl (by decide +kernel) rfl rfl (Nat.le_of_ble_eq_true rfl) dX4_init_9 (fun H locs hP hD hS => ?_)
  have hP : va_P D vwCl ((h0, .inr (4, [.null, .null, .int 0, .int 0, .int 0, .ref q0, .null, .null, .null, .null, .null])) :: [(q0, .inl (cI, (9, .inl (fun _ => 0))))]) _ := hP
  have hD : va_D A ((h0, .inr (4, [.null, .null, .int 0, .int 0, .int 0, .ref q0, .null, .null, .null, .null, .null])) :: [(q0, .inl (cI, (9, .inl (fun _ => 0))))]) := hD
  refine lv_aload_n hx hb dX4_init_12 rfl (lv_at hl 0 rfl) ?_
  refine lv_bipush hx hb dX4_init_13 rfl ?_
  refine va_newa (atype := .int) (ty := .int) (N' := 9) (a0 := (9, .inl (fun _ => 0))) hx hb (htA _ q112) rfl hK hP hD hS hA (fun cA => rfl) (by decide) (by decide) (by decide) (Nat.le_of_ble_eq_true rfl) (Nat.le_of_ble_eq_true rfl) dX4_init_15 (fun q1 cA H hK1 hP hD hS => ?_)
  obtain rfl := ka_int hK1 0 1 rfl rfl
  have hP : va_P D vwCl ((h0, .inr (4, [.null, .null, .int 0, .int 0, .int 0, .ref q0, .null, .null, .null, .null, .null])) :: [(q0, .inl (cI, (9, .inl (fun _ => 0)))), (q1, .inl (cI, (9, .inl (fun _ => 0))))]) _ := hP
  have hD : va_D A ((h0, .inr (4, [.null, .null, .int 0, .int 0, .int 0, .ref q0, .null, .null, .null, .null, .null])) :: [(q0, .inl (cI, (9, .inl (fun _ => 0)))), (q1, .inl (cI, (9, .inl (fun _ => 0))))]) := hD
  refine va_putF (ci := 4) (v := .ref q1) (ty := .array .int) (C := RX4) (T := TX4) (N := 11) hx hb htA inX4 tyX4 tyX4_ok nmX4 hown hK hP hD hS 0 rfl rfl 6 (by decide) (htA _ q131) (fun _ h9 => h9) rfl hin rfl (by decide +kernel) rfl rfl (Nat.le_of_ble_eq_true rfl) dX4_init_17 (fun H locs hP hD hS => ?_)
  have hP : va_P D vwCl ((h0, .inr (4, [.null, .null, .int 0, .int 0, .int 0, .ref q0, .ref q1, .null, .null, .null, .null])) :: [(q0, .inl (cI, (9, .inl (fun _ => 0)))), (q1, .inl (cI, (9, .inl (fun _ => 0))))]) _ := hP
  have hD : va_D A ((h0, .inr (4, [.null, .null, .int 0, .int 0, .int 0, .ref q0, .ref q1, .null, .null, .null, .null])) :: [(q0, .inl (cI, (9, .inl (fun _ => 0)))), (q1, .inl (cI, (9, .inl (fun _ => 0))))]) := hD
  refine lv_aload_n hx hb dX4_init_20 rfl (lv_at hl 0 rfl) ?_
  refine lv_bipush hx hb dX4_init_21 rfl ?_
  refine va_newa (atype := .int) (ty := .int) (N' := 9) (a0 := (9, .inl (fun _ => 0))) hx hb (htA _ q112) rfl hK hP hD hS hA (fun cA => rfl) (by decide) (by decide) (by decide) (Nat.le_of_ble_eq_true rfl) (Nat.le_of_ble_eq_true rfl) dX4_init_23 (fun q2 cA H hK1 hP hD hS => ?_)
  obtain rfl := ka_int hK1 0 1 rfl rfl
  have hP : va_P D vwCl ((h0, .inr (4, [.null, .null, .int 0, .int 0, .int 0, .ref q0, .ref q1, .null, .null, .null, .null])) :: [(q0, .inl (cI, (9, .inl (fun _ => 0)))), (q1, .inl (cI, (9, .inl (fun _ => 0)))), (q2, .inl (cI, (9, .inl (fun _ => 0))))]) _ := hP
  have hD : va_D A ((h0, .inr (4, [.null, .null, .int 0, .int 0, .int 0, .ref q0, .ref q1, .null, .null, .null, .null])) :: [(q0, .inl (cI, (9, .inl (fun _ => 0)))), (q1, .inl (cI, (9, .inl (fun _ => 0)))), (q2, .inl (cI, (9, .inl (fun _ => 0))))]) := hD
  refine va_putF (ci := 4) (v := .ref q2) (ty := .array .int) (C := RX4) (T := TX4) (N := 11) hx hb htA inX4 tyX4 tyX4_ok nmX4 hown hK hP hD hS 0 rfl rfl 7 (by decide) (htA _ q134) (fun _ h9 => h9) rfl hin rfl (by decide +kernel) rfl rfl (Nat.le_of_ble_eq_true rfl) dX4_init_25 (fun H locs hP hD hS => ?_)
  have hP : va_P D vwCl ((h0, .inr (4, [.null, .null, .int 0, .int 0, .int 0, .ref q0, .ref q1, .ref q2, .null, .null, .null])) :: [(q0, .inl (cI, (9, .inl (fun _ => 0)))), (q1, .inl (cI, (9, .inl (fun _ => 0)))), (q2, .inl (cI, (9, .inl (fun _ => 0))))]) _ := hP
  have hD : va_D A ((h0, .inr (4, [.null, .null, .int 0, .int 0, .int 0, .ref q0, .ref q1, .ref q2, .null, .null, .null])) :: [(q0, .inl (cI, (9, .inl (fun _ => 0)))), (q1, .inl (cI, (9, .inl (fun _ => 0)))), (q2, .inl (cI, (9, .inl (fun _ => 0))))]) := hD
  refine lv_aload_n hx hb dX4_init_28 rfl (lv_at hl 0 rfl) ?_
  refine lv_bipush hx hb dX4_init_29 rfl ?_
  refine va_newa (atype := .int) (ty := .int) (N' := 9) (a0 := (9, .inl (fun _ => 0))) hx hb (htA _ q112) rfl hK hP hD hS hA (fun cA => rfl) (by decide) (by decide) (by decide) (Nat.le_of_ble_eq_true rfl) (Nat.le_of_ble_eq_true rfl) dX4_init_31 (fun q3 cA H hK1 hP hD hS => ?_)
  obtain rfl := ka_int hK1 0 1 rfl rfl
  have hP : va_P D vwCl ((h0, .inr (4, [.null, .null, .int 0, .int 0, .int 0, .ref q0, .ref q1, .ref q2, .null, .null, .null])) :: [(q0, .inl (cI, (9, .inl (fun _ => 0)))), (q1, .inl (cI, (9, .inl (fun _ => 0)))), (q2, .inl (cI, (9, .inl (fun _ => 0)))), (q3, .inl (cI, (9, .inl (fun _ => 0))))]) _ := hP
  have hD : va_D A ((h0, .inr (4, [.null, .null, .int 0, .int 0, .int 0, .ref q0, .ref q1, .ref q2, .null, .null, .null])) :: [(q0, .inl (cI, (9, .inl (fun _ => 0)))), (q1, .inl (cI, (9, .inl (fun _ => 0)))), (q2, .inl (cI, (9, .inl (fun _ => 0)))), (q3, .inl (cI, (9, .inl (fun _ => 0))))]) := hD
  refine va_putF (ci := 4) (v := .ref q3) (ty := .array .int) (C := RX4) (T := TX4) (N := 11) hx hb htA inX4 tyX4 tyX4_ok nmX4 hown hK hP hD hS 0 rfl rfl 8 (by decide) (htA _ q137) (fun _ h9 => h9) rfl hin rfl (by decide +kernel) rfl rfl (Nat.le_of_ble_eq_true rfl) dX4_init_33 (fun H locs hP hD hS => ?_)
  have hP : va_P D vwCl ((h0, .inr (4, [.null, .null, .int 0, .int 0, .int 0, .ref q0, .ref q1, .ref q2, .ref q3, .null, .null])) :: [(q0, .inl (cI, (9, .inl (fun _ => 0)))), (q1, .inl (cI, (9, .inl (fun _ => 0)))), (q2, .inl (cI, (9, .inl (fun _ => 0)))), (q3, .inl (cI, (9, .inl (fun _ => 0))))]) _ := hP
  have hD : va_D A ((h0, .inr (4, [.null, .null, .int 0, .int 0, .int 0, .ref q0, .ref q1, .ref q2, .ref q3, .null, .null])) :: [(q0, .inl (cI, (9, .inl (fun _ => 0)))), (q1, .inl (cI, (9, .inl (fun _ => 0)))), (q2, .inl (cI, (9, .inl (fun _ => 0)))), (q3, .inl (cI, (9, .inl (fun _ => 0))))]) := hD
  refine lv_aload_n hx hb dX4_init_36 rfl (lv_at hl 0 rfl) ?_
  refine lv_bipush hx hb dX4_init_37 rfl ?_
  refine va_newa (atype := .int) (ty := .int) (N' := 9) (a0 := (9, .inl (fun _ => 0))) hx hb (htA _ q112) rfl hK hP hD hS hA (fun cA => rfl) (by decide) (by decide) (by decide) (Nat.le_of_ble_eq_true rfl) (Nat.le_of_ble_eq_true rfl) dX4_init_39 (fun q4 cA H hK1 hP hD hS => ?_)
  obtain rfl := ka_int hK1 0 1 rfl rfl
  have hP : va_P D vwCl ((h0, .inr (4, [.null, .null, .int 0, .int 0, .int 0, .ref q0, .ref q1, .ref q2, .ref q3, .null, .null])) :: [(q0, .inl (cI, (9, .inl (fun _ => 0)))), (q1, .inl (cI, (9, .inl (fun _ => 0)))), (q2, .inl (cI, (9, .inl (fun _ => 0)))), (q3, .inl (cI, (9, .inl (fun _ => 0)))), (q4, .inl (cI, (9, .inl (fun _ => 0))))]) _ := hP
  have hD : va_D A ((h0, .inr (4, [.null, .null, .int 0, .int 0, .int 0, .ref q0, .ref q1, .ref q2, .ref q3, .null, .null])) :: [(q0, .inl (cI, (9, .inl (fun _ => 0)))), (q1, .inl (cI, (9, .inl (fun _ => 0)))), (q2, .inl (cI, (9, .inl (fun _ => 0)))), (q3, .inl (cI, (9, .inl (fun _ => 0)))), (q4, .inl (cI, (9, .inl (fun _ => 0))))]) := hD
  refine va_putF (ci := 4) (v := .ref q4) (ty := .array .int) (C := RX4) (T := TX4) (N := 11) hx hb htA inX4 tyX4 tyX4_ok nmX4 hown hK hP hD hS 0 rfl rfl 9 (by decide) (htA _ q139) (fun _ h9 => h9) rfl hin rfl (by decide +kernel) rfl rfl (Nat.le_of_ble_eq_true rfl) dX4_init_41 (fun H locs hP hD hS => ?_)
  have hP : va_P D vwCl ((h0, .inr (4, [.null, .null, .int 0, .int 0, .int 0, .ref q0, .ref q1, .ref q2, .ref q3, .ref q4, .null])) :: [(q0, .inl (cI, (9, .inl (fun _ => 0)))), (q1, .inl (cI, (9, .inl (fun _ => 0)))), (q2, .inl (cI, (9, .inl (fun _ => 0)))), (q3, .inl (cI, (9, .inl (fun _ => 0)))), (q4, .inl (cI, (9, .inl (fun _ => 0))))]) _ := hP
  have hD : va_D A ((h0, .inr (4, [.null, .null, .int 0, .int 0, .int 0, .ref q0, .ref q1, .ref q2, .ref q3, .ref q4, .null])) :: [(q0, .inl (cI, (9, .inl (fun _ => 0)))), (q1, .inl (cI, (9, .inl (fun _ => 0)))), (q2, .inl (cI, (9, .inl (fun _ => 0)))), (q3, .inl (cI, (9, .inl (fun _ => 0)))), (q4, .inl (cI, (9, .inl (fun _ => 0))))]) := hD
  refine lv_aload_n hx hb dX4_init_44 rfl (lv_at hl 0 rfl) ?_
  refine lv_bipush hx hb dX4_init_45 rfl ?_
  refine va_newa (atype := .int) (ty := .int) (N' := 9) (a0 := (9, .inl (fun _ => 0))) hx hb (htA _ q112) rfl hK hP hD hS hA (fun cA => rfl) (by decide) (by decide) (by decide) (Nat.le_of_ble_eq_true rfl) (Nat.le_of_ble_eq_true rfl) dX4_init_47 (fun q5 cA H hK1 hP hD hS => ?_)
  obtain rfl := ka_int hK1 0 1 rfl rfl
  have hP : va_P D vwCl ((h0, .inr (4, [.null, .null, .int 0, .int 0, .int 0, .ref q0, .ref q1, .ref q2, .ref q3, .ref q4, .null])) :: [(q0, .inl (cI, (9, .inl (fun _ => 0)))), (q1, .inl (cI, (9, .inl (fun _ => 0)))), (q2, .inl (cI, (9, .inl (fun _ => 0)))), (q3, .inl (cI, (9, .inl (fun _ => 0)))), (q4, .inl (cI, (9, .inl (fun _ => 0)))), (q5, .inl (cI, (9, .inl (fun _ => 0))))]) _ := hP
  have hD : va_D A ((h0, .inr (4, [.null, .null, .int 0, .int 0, .int 0, .ref q0, .ref q1, .ref q2, .ref q3, .ref q4, .null])) :: [(q0, .inl (cI, (9, .inl (fun _ => 0)))), (q1, .inl (cI, (9, .inl (fun _ => 0)))), (q2, .inl (cI, (9, .inl (fun _ => 0)))), (q3, .inl (cI, (9, .inl (fun _ => 0)))), (q4, .inl (cI, (9, .inl (fun _ => 0)))), (q5, .inl (cI, (9, .inl (fun _ => 0))))]) := hD
  refine va_putF (ci := 4) (v := .ref q5) (ty := .array .int) (C := RX4) (T := TX4) (N := 11) hx hb htA inX4 tyX4 tyX4_ok nmX4 hown hK hP hD hS 0 rfl rfl 10 (by decide) (htA _ q141) (fun _ h9 => h9) rfl hin rfl (by decide +kernel) rfl rfl (Nat.le_of_ble_eq_true rfl) dX4_init_49 (fun H locs hP hD hS => ?_)
  have hP : va_P D vwCl ((h0, .inr (4, [.null, .null, .int 0, .int 0, .int 0, .ref q0, .ref q1, .ref q2, .ref q3, .ref q4, .ref q5])) :: [(q0, .inl (cI, (9, .inl (fun _ => 0)))), (q1, .inl (cI, (9, .inl (fun _ => 0)))), (q2, .inl (cI, (9, .inl (fun _ => 0)))), (q3, .inl (cI, (9, .inl (fun _ => 0)))), (q4, .inl (cI, (9, .inl (fun _ => 0)))), (q5, .inl (cI, (9, .inl (fun _ => 0))))]) _ := hP
  have hD : va_D A ((h0, .inr (4, [.null, .null, .int 0, .int 0, .int 0, .ref q0, .ref q1, .ref q2, .ref q3, .ref q4, .ref q5])) :: [(q0, .inl (cI, (9, .inl (fun _ => 0)))), (q1, .inl (cI, (9, .inl (fun _ => 0)))), (q2, .inl (cI, (9, .inl (fun _ => 0)))), (q3, .inl (cI, (9, .inl (fun _ => 0)))), (q4, .inl (cI, (9, .inl (fun _ => 0)))), (q5, .inl (cI, (9, .inl (fun _ => 0))))]) := hD
  refine lv_aload_n hx hb dX4_init_52 rfl (lv_at hl 0 rfl) ?_
  refine lv_aload_n hx hb dX4_init_53 rfl (lv_at hl 1 rfl) ?_
  refine va_putF (ci := 4) (v := .ref a) (ty := .object "LeftoverRule$Law") (C := RX4) (T := TX4) (N := 11) hx hb htA inX4 tyX4 tyX4_ok nmX4 hown hK hP hD hS 0 rfl rfl 0 (by decide) (htA _ q119) (fun _ h9 => h9) rfl hin rfl (by decide +kernel) rfl rfl (Nat.le_of_ble_eq_true rfl) dX4_init_54 (fun H locs hP hD hS => ?_)
  have hP : va_P D vwCl ((h0, .inr (4, [.ref a, .null, .int 0, .int 0, .int 0, .ref q0, .ref q1, .ref q2, .ref q3, .ref q4, .ref q5])) :: [(q0, .inl (cI, (9, .inl (fun _ => 0)))), (q1, .inl (cI, (9, .inl (fun _ => 0)))), (q2, .inl (cI, (9, .inl (fun _ => 0)))), (q3, .inl (cI, (9, .inl (fun _ => 0)))), (q4, .inl (cI, (9, .inl (fun _ => 0)))), (q5, .inl (cI, (9, .inl (fun _ => 0))))]) _ := hP
  have hD : va_D A ((h0, .inr (4, [.ref a, .null, .int 0, .int 0, .int 0, .ref q0, .ref q1, .ref q2, .ref q3, .ref q4, .ref q5])) :: [(q0, .inl (cI, (9, .inl (fun _ => 0)))), (q1, .inl (cI, (9, .inl (fun _ => 0)))), (q2, .inl (cI, (9, .inl (fun _ => 0)))), (q3, .inl (cI, (9, .inl (fun _ => 0)))), (q4, .inl (cI, (9, .inl (fun _ => 0)))), (q5, .inl (cI, (9, .inl (fun _ => 0))))]) := hD
  refine lv_aload_n hx hb dX4_init_57 rfl (lv_at hl 0 rfl) ?_
  refine lv_aload_n hx hb dX4_init_58 rfl (lv_at hl 2 rfl) ?_
  refine va_putF (ci := 4) (v := .ref b) (ty := .object "LeftoverRule$Law") (C := RX4) (T := TX4) (N := 11) hx hb htA inX4 tyX4 tyX4_ok nmX4 hown hK hP hD hS 0 rfl rfl 1 (by decide) (htA _ q120) (fun _ h9 => h9) rfl hin rfl (by decide +kernel) rfl rfl (Nat.le_of_ble_eq_true rfl) dX4_init_59 (fun H locs hP hD hS => ?_)
  have hP : va_P D vwCl ((h0, .inr (4, [.ref a, .ref b, .int 0, .int 0, .int 0, .ref q0, .ref q1, .ref q2, .ref q3, .ref q4, .ref q5])) :: [(q0, .inl (cI, (9, .inl (fun _ => 0)))), (q1, .inl (cI, (9, .inl (fun _ => 0)))), (q2, .inl (cI, (9, .inl (fun _ => 0)))), (q3, .inl (cI, (9, .inl (fun _ => 0)))), (q4, .inl (cI, (9, .inl (fun _ => 0)))), (q5, .inl (cI, (9, .inl (fun _ => 0))))]) _ := hP
  have hD : va_D A ((h0, .inr (4, [.ref a, .ref b, .int 0, .int 0, .int 0, .ref q0, .ref q1, .ref q2, .ref q3, .ref q4, .ref q5])) :: [(q0, .inl (cI, (9, .inl (fun _ => 0)))), (q1, .inl (cI, (9, .inl (fun _ => 0)))), (q2, .inl (cI, (9, .inl (fun _ => 0)))), (q3, .inl (cI, (9, .inl (fun _ => 0)))), (q4, .inl (cI, (9, .inl (fun _ => 0)))), (q5, .inl (cI, (9, .inl (fun _ => 0))))]) := hD
  obtain ⟨u, hu⟩ : ∃ u : (Nat → Nat) × ClassId, u = (fun i => [q0, q1, q2, q3, q4, q5].getD i 0, cI) := ⟨_, rfl⟩
  have hP : va_P D vwCl (wTable cI h0 a b (u.1 0) (u.1 1) (u.1 2) (u.1 3) (u.1 4) (u.1 5)) H := by subst hu; exact hP
  have hD : va_D A (wTable cI h0 a b (u.1 0) (u.1 1) (u.1 2) (u.1 3) (u.1 4) (u.1 5)) := by subst hu; exact hD
  exact W.vret hx hb hr (fun t ht hW => ⟨⟨u, rfl, trivial, by rw [ht]; exact hP, va_K.moved hW.alike (hK.sub [] rfl), hD⟩, hS.F ht⟩) hS.2.2 dX4_init_62
