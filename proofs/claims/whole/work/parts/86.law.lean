/-! THE LAW: its frame, over the two stores -/
abbrev LV : Type := Program × Launch × Env × State × MethodId × List Frame × Method × Code × Nat × GX × (Nat → Int32) × Nat
abbrev uP (V : LV) := V.1
abbrev uL (V : LV) := V.2.1
abbrev uE (V : LV) := V.2.2.1
abbrev uS (V : LV) := V.2.2.2.1
abbrev uM (V : LV) := V.2.2.2.2.1
abbrev uB (V : LV) := V.2.2.2.2.2.1
abbrev uMe (V : LV) := V.2.2.2.2.2.2.1
abbrev uC (V : LV) := V.2.2.2.2.2.2.2.1
abbrev ub (V : LV) := V.2.2.2.2.2.2.2.2.1
abbrev uG (V : LV) := V.2.2.2.2.2.2.2.2.2.1
abbrev ux (V : LV) := V.2.2.2.2.2.2.2.2.2.2.1
abbrev uN (V : LV) := V.2.2.2.2.2.2.2.2.2.2.2
/-- what is new since the law began -/
def lA (s : State) : Nat → Prop := fun q => s.heap.size ≤ q
def wl2 (V : LV) (SC SM : St) : va_W := wld (uG V) enC SC ++ wld (uG V) enM SM
def LF (V : LV) (SC SM : St) (pc : Nat) (L : List (Nat × Value)) (st : List Value) : Prop := ∀ (H : Heap) (locs : List Loc) (ls : Array Slot), va_P (uG V).1 vwCl (wl2 V SC SM) H → va_D (lA (uS V)) (wl2 V SC SM) → va_S (lA (uS V)) (uS V).heap H locs → lv_has ls 4 L → W (uP V) (uL V) (uE V) room_1 (uS V) (uM V) #[Value.ref (ub V)] (uB V) (uMe V) (uC V) H locs 72 2582 (lw_Z (uB V) #[Value.ref (ub V)] (uS V)) (F0 (uM V) pc ls st)
def LX (V : LV) : Prop := (uP V).tables.exec = Jvm.exec ∧ (uC V).code = code ∧ (uC V).maxLocals = 4 ∧ (uS V).vm.findClass RL = some (uM V).cls ∧ (∀ w ∈ AW, w.before #[Value.ref (ub V)] (uS V) = true) ∧ va_K (uG V).1 vwCl (tysG (uG V)) (uS V) ∧ sts (uG V) (lA (uS V)) (uS V) (uS V).heap ∧ nst (uS V) ∧ va_X (ub V) (uN V) (ux V) (uS V) (uS V).heap ∧ ub V < (uS V).heap.size ∧ (uMe V).sig.returnType = ret ∧ (uMe V).locks = false
theorem wld_map (G : GX) (en : List (Nat × Nat)) (S : St) : (wld G en S).map (fun q => q.1) = en.map (fun q => adr G q.1 q.2) := by
  unfold wld
  rw [List.map_map]
  rfl
theorem va_D_iff2 {A : Nat → Prop} {ws : va_W} : va_D A ws ↔ (ws.map (fun q => q.1)).Nodup ∧ ∀ a ∈ ws.map (fun q => q.1), A a := by
  rw [va_D_iff]
  exact and_congr_right (fun _ => ⟨fun h a ha => by obtain ⟨q, h1, rfl⟩ := List.mem_map.mp ha; exact h q h1, fun h q hq => h q.1 (List.mem_map.mpr ⟨q, hq, rfl⟩)⟩)
theorem wl2_map (V : LV) (SC SM : St) : (wl2 V SC SM).map (fun q => q.1) = enC.map (fun q => adr (uG V) q.1 q.2) ++ enM.map (fun q => adr (uG V) q.1 q.2) := by
  unfold wl2
  rw [List.map_append, wld_map, wld_map]
theorem wl2_D {V : LV} {SC SM SC1 SM1 : St} {A : Nat → Prop} (h : va_D A (wl2 V SC SM)) : va_D A (wl2 V SC1 SM1) := by
  rw [va_D_iff2, wl2_map] at h ⊢
  exact h
theorem va_P_app {D : va_G} {cl : List vw_C} {a b : va_W} {H : Heap} : va_P D cl (a ++ b) H ↔ va_P D cl a H ∧ va_P D cl b H := by
  rw [va_P_iff, va_P_iff, va_P_iff]
  exact ⟨fun h => ⟨fun q hq => h q (List.mem_append_left _ hq), fun q hq => h q (List.mem_append_right _ hq)⟩, fun h q hq => (List.mem_append.mp hq).elim (h.1 q) (h.2 q)⟩
theorem va_D_left {A : Nat → Prop} {a b : va_W} (h : va_D A (a ++ b)) : va_D A a := by
  rw [va_D_iff2, List.map_append, List.nodup_append] at h
  exact va_D_iff2.mpr ⟨h.1.1, fun x hx => h.2 x (List.mem_append_left _ hx)⟩
theorem va_D_right {A : Nat → Prop} {a b : va_W} (h : va_D A (a ++ b)) : va_D A b := by
  rw [va_D_iff2, List.map_append, List.nodup_append] at h
  exact va_D_iff2.mpr ⟨h.1.2.1, fun x hx => h.2 x (List.mem_append_right _ hx)⟩
theorem wld_adr {G : GX} {en : List (Nat × Nat)} {S : St} {q : Nat × Nat} (h : q ∈ en) : ∃ e, (adr G q.1 q.2, e) ∈ wld G en S := ⟨_, List.mem_map.mpr ⟨q, h, rfl⟩⟩
section LFS
variable {V : LV} {SC SM : St} {pc index : Nat} {L : List (Nat × Value)} {st : List Value}
theorem lx_A {en : List (Nat × Nat)} {S : St} {H : Heap} {locs : List Loc} (hD : va_D (lA (uS V)) (wld (uG V) en S)) (hS : va_S (lA (uS V)) (uS V).heap H locs) : ∀ q, fA (uG V) en H.size q → lA (uS V) q := by
  intro q h
  rcases h with ⟨x, h1, rfl⟩ | h
  · obtain ⟨e, he⟩ := wld_adr (G := uG V) (S := S) h1
    exact (va_D_iff.mp hD).2 _ he
  · exact Nat.le_trans hS.1 h
theorem lx_pre (C : LX V) {en : List (Nat × Nat)} {S : St} {H : Heap} {locs : List Loc} (hP : va_P (uG V).1 vwCl (wld (uG V) en S) H) (hD : va_D (lA (uS V)) (wld (uG V) en S)) (hS : va_S (lA (uS V)) (uS V).heap H locs) (U : State) (hU : U.heap = H) (hW : (uS V).WarmedH U.vm) : PRE (uG V) en S H.size U := by
  refine ⟨by rw [hU], by rw [hU]; exact hP, va_K.moved hW.alike C.2.2.2.2.2.1, hD.weaken (fun _ _ _ _ => trivial), ?_, nst_warm hW C.2.2.2.2.2.2.2.1⟩
  rw [hU]
  exact sts_to hW.alike hS.2.1 (lx_A hD hS) C.2.2.2.2.2.2.1
theorem lx_recv (C : LX V) {en : List (Nat × Nat)} {S : St} {H : Heap} {o k : Nat} {Cn : String} {fs : List Value} (ho : (o, 0) ∈ en) (he : ocell (uG V) o (S.1 o) = .inr (k, fs)) (hk : (vwCl[k]?).map (fun q => q.1) = some Cn) (hP : va_P (uG V).1 vwCl (wld (uG V) en S) H) : ∃ cell : Cell, H[adr (uG V) o 0]? = some cell ∧ cell.vm.isStatics = false ∧ (uS V).vm.findClass Cn = some cell.cls := by
  obtain ⟨i, hi⟩ := List.getElem?_of_mem ho
  obtain ⟨q, hq, rfl⟩ := Option.map_eq_some_iff.mp hk
  refine va_recv C.2.2.2.2.2.1 hP (ci := k) (q0 := i) (fs := fs) hq ((wld_at hi).trans (congrArg some (Prod.ext rfl (?_ : ecell (uG V) S (o, 0) = .inr (k, fs)))))
  unfold ecell
  rw [if_pos rfl, he]
theorem lx_callB (C : LX V) {y : MethodName} {bytes : ByteArray} {maxL n f2 l2 : Nat} {ret : Option FieldType} (hl : Cond.methodLink RL index y ∈ AW) (hc : Cond.code y bytes maxL ret ∈ AW) (hi : Cond.initialized y.cls ∈ AW) (hd : MD y n) (hf : f2 + 1 ≤ 2048) (ho : 8 + (maxL + 11) + l2 ≤ 84000) : CallB room_1 (uS V) #[Value.ref (ub V)] RL index y bytes maxL ret (Cond.code y bytes maxL ret :: AW) { frames := f2, cells := 0, slots := 0, locals := l2 } 0 0 n :=
  callB_of n C.2.2.2.2.1 (gd_code hc) rfl rfl rfl (C.2.2.2.2.1 _ hi) (C.2.2.2.2.1 _ hl) hd ⟨hf, ho⟩
/-- cells that a call left alone -/
theorem kept_of {D : va_G} {cl : List vw_C} {A : Nat → Prop} {a b : va_W} {F : Nat → Prop} {H H1 : Heap} (hP : va_P D cl b H) (hF : ∀ q ∈ b, q.1 < H.size → ¬ F q.1) (hk : ∀ q : Nat, q < H.size → ¬ F q → H1[q]? = H[q]?) : va_P D cl b H1 := hP.kept (fun k q hq => hk q.1 (hP k q hq).lt (hF q (List.mem_of_getElem? hq) (hP k q hq).lt))
theorem lf_callC (C : LX V) {y : MethodName} {bytes : ByteArray} {maxL n f2 l2 : Nat} {rt : Option FieldType} {Q : Int32 → St → Prop} {stk : List Value} (As : List Value) (st : List Value) (hI : Cond.instanceMethod y ∈ AW) (hsel : Cond.selects RX6 y y ∈ AW) (hM : CTi (uL V) y (Cond.code y bytes maxL rt :: AW) { frames := f2, cells := 0, slots := 0, locals := l2 } (uG V) enC (.ref (adr (uG V) 0 0) :: As) SC Q) (hl : Cond.methodLink RL index y ∈ AW) (hc : Cond.code y bytes maxL rt ∈ AW) (hi : Cond.initialized y.cls ∈ AW) (hd : MD y n) (hf : f2 + 1 ≤ 2048) (hlo : 8 + (maxL + 11) + l2 ≤ 84000) (hn : As.length = n) (hs : stk = As.reverse ++ .ref (adr (uG V) 0 0) :: st) (hst : (st.map fun v => v.category).sum ≤ 8) (hdg : decode code pc = .ok (.invokevirtual index, 3)) (kk : ∀ (r : Int32) (u : St), Q r u → LF V u SM (pc + 3) L (.int r :: st)) : LF V SC SM pc L stk := by
  intro H locs ls hP hD hS hlv
  subst hs
  have hP2 := va_P_app.mp hP
  have hDc := va_D_left hD
  refine va_calli (va_runV (As := As) (rest := st) ⟨C.1, C.2.1, C.2.2.1, C.2.2.2.1, C.2.2.2.2.1⟩ (hM H.size) ⟨lx_callB C hl hc hi hd hf hlo, C.2.2.2.2.1 _ hI, C.2.2.2.2.1 _ hsel⟩ ⟨pre_blind, lx_recv C okC_0.1 (ocell_6 okC_0.2.1) rfl hP2.1, fun U hU hW => ⟨rfl, lx_pre C hP2.1 hDc hS U hU hW⟩⟩ rfl hn (hlv.1.trans rfl) rfl (lv_room hst) hdg ⟨Nat.le_of_ble_eq_true rfl, Nat.le_of_ble_eq_true rfl⟩) hS (fun q _ h => lx_A hDc hS q h) (lx_A hDc hS) (fun r u t H1 locs1 ht _ hq hB _ hk1 hS1 => ?_)
  rw [ht] at hB
  have hDn := va_D_iff2.mp hD
  rw [wl2_map, List.nodup_append] at hDn
  refine kk r u hq H1 locs1 ls (va_P_app.mpr ⟨hB, hP2.2.kept (fun k q hq => hk1 q.1 (hP2.2 k q hq).lt (fun hF => ?_))⟩) (wl2_D hD) hS1 hlv
  rcases hF with ⟨x, hx, hq2⟩ | hF
  · obtain ⟨z, hz, rfl⟩ := List.mem_map.mp (List.mem_of_getElem? hq)
    exact hDn.1.2.2 _ (List.mem_map.mpr ⟨x, hx, rfl⟩) _ (List.mem_map.mpr ⟨z, hz, rfl⟩) hq2.symm
  · exact absurd (hP2.2 k q hq).lt (Nat.not_lt.mpr hF)
theorem lf_callM (C : LX V) {y : MethodName} {bytes : ByteArray} {maxL n f2 l2 : Nat} {rt : Option FieldType} {Q : Int32 → St → Prop} {stk : List Value} (As : List Value) (st : List Value) (hI : Cond.instanceMethod y ∈ AW) (hsel : Cond.selects RX7 y y ∈ AW) (hM : CTi (uL V) y (Cond.code y bytes maxL rt :: AW) { frames := f2, cells := 0, slots := 0, locals := l2 } (uG V) enM (.ref (adr (uG V) 17 0) :: As) SM Q) (hl : Cond.methodLink RL index y ∈ AW) (hc : Cond.code y bytes maxL rt ∈ AW) (hi : Cond.initialized y.cls ∈ AW) (hd : MD y n) (hf : f2 + 1 ≤ 2048) (hlo : 8 + (maxL + 11) + l2 ≤ 84000) (hn : As.length = n) (hs : stk = As.reverse ++ .ref (adr (uG V) 17 0) :: st) (hst : (st.map fun v => v.category).sum ≤ 8) (hdg : decode code pc = .ok (.invokevirtual index, 3)) (kk : ∀ (r : Int32) (u : St), Q r u → LF V SC u (pc + 3) L (.int r :: st)) : LF V SC SM pc L stk := by
  intro H locs ls hP hD hS hlv
  subst hs
  have hP2 := va_P_app.mp hP
  have hDc := va_D_right hD
  refine va_calli (va_runV (As := As) (rest := st) ⟨C.1, C.2.1, C.2.2.1, C.2.2.2.1, C.2.2.2.2.1⟩ (hM H.size) ⟨lx_callB C hl hc hi hd hf hlo, C.2.2.2.2.1 _ hI, C.2.2.2.2.1 _ hsel⟩ ⟨pre_blind, lx_recv C okM_17.1 (ocell_7 okM_17.2.1) rfl hP2.2, fun U hU hW => ⟨rfl, lx_pre C hP2.2 hDc hS U hU hW⟩⟩ rfl hn (hlv.1.trans rfl) rfl (lv_room hst) hdg ⟨Nat.le_of_ble_eq_true rfl, Nat.le_of_ble_eq_true rfl⟩) hS (fun q _ h => lx_A hDc hS q h) (lx_A hDc hS) (fun r u t H1 locs1 ht _ hq hB _ hk1 hS1 => ?_)
  rw [ht] at hB
  have hDn := va_D_iff2.mp hD
  rw [wl2_map, List.nodup_append] at hDn
  refine kk r u hq H1 locs1 ls (va_P_app.mpr ⟨hP2.1.kept (fun k q hq => hk1 q.1 (hP2.1 k q hq).lt (fun hF => ?_)), hB⟩) (wl2_D hD) hS1 hlv
  rcases hF with ⟨x, hx, hq2⟩ | hF
  · obtain ⟨z, hz, rfl⟩ := List.mem_map.mp (List.mem_of_getElem? hq)
    exact hDn.1.2.2 _ (List.mem_map.mpr ⟨z, hz, rfl⟩) _ (List.mem_map.mpr ⟨x, hx, rfl⟩) hq2
  · exact absurd (hP2.1 k q hq).lt (Nat.not_lt.mpr hF)
theorem lf_iconst (C : LX V) {n : Int} {v : Int32} (hdg : decode code pc = .ok (.iconst n, 1)) (hv : Int32.ofInt n = v) (kk : LF V SC SM (pc + 1) L (.int v :: st)) : LF V SC SM pc L st := fun H locs ls hP hD hS hlv => lv_iconst C.1 C.2.1 hdg hv (kk H locs ls hP hD hS hlv)
theorem lf_bipush (C : LX V) {n : Int} {v : Int32} (hdg : decode code pc = .ok (.bipush n, 2)) (hv : (Int8.ofInt n).toInt32 = v) (kk : LF V SC SM (pc + 2) L (.int v :: st)) : LF V SC SM pc L st := fun H locs ls hP hD hS hlv => lv_bipush C.1 C.2.1 hdg hv (kk H locs ls hP hD hS hlv)
theorem lf_ldc2 (C : LX V) {v : Int64} (hdg : decode code pc = .ok (.ldc2_w index, 3)) (hl : Cond.constantLong RL index v ∈ AW) (kk : LF V SC SM (pc + 3) L (.long v :: st)) : LF V SC SM pc L st := fun H locs ls hP hD hS hlv => lv_ldc2 C.1 C.2.1 C.2.2.2.1 (C.2.2.2.2.1 _ hl) hdg (kk H locs ls hP hD hS hlv)
theorem lf_iload_n (C : LX V) {k : Fin 4} {i : Nat} {x : Int32} (hdg : decode code pc = .ok (.iload_n k, 1)) (hi : (k : Nat) = i) (q : Nat) (hq : L[q]? = some (i, .int x)) (kk : LF V SC SM (pc + 1) L (.int x :: st)) : LF V SC SM pc L st := fun H locs ls hP hD hS hlv => lv_iload_n C.1 C.2.1 hdg hi (lv_at hlv q hq) (kk H locs ls hP hD hS hlv)
theorem lf_aload_n (C : LX V) {k : Fin 4} {i : Nat} {x : Nat} (hdg : decode code pc = .ok (.aload_n k, 1)) (hi : (k : Nat) = i) (q : Nat) (hq : L[q]? = some (i, .ref x)) (kk : LF V SC SM (pc + 1) L (.ref x :: st)) : LF V SC SM pc L st := fun H locs ls hP hD hS hlv => lv_aload_n C.1 C.2.1 hdg hi (lv_at hlv q hq) (kk H locs ls hP hD hS hlv)
theorem lf_iadd (C : LX V) {x y : Int32} (hdg : decode code pc = .ok (.iadd, 1)) (kk : LF V SC SM (pc + 1) L (.int (x + y) :: st)) : LF V SC SM pc L (.int y :: .int x :: st) := fun H locs ls hP hD hS hlv => lv_iadd C.1 C.2.1 hdg (kk H locs ls hP hD hS hlv)
theorem lf_isub (C : LX V) {x y : Int32} (hdg : decode code pc = .ok (.isub, 1)) (kk : LF V SC SM (pc + 1) L (.int (x - y) :: st)) : LF V SC SM pc L (.int y :: .int x :: st) := fun H locs ls hP hD hS hlv => lv_isub C.1 C.2.1 hdg (kk H locs ls hP hD hS hlv)
theorem lf_iand (C : LX V) {x y : Int32} (hdg : decode code pc = .ok (.iand, 1)) (kk : LF V SC SM (pc + 1) L (.int (x &&& y) :: st)) : LF V SC SM pc L (.int y :: .int x :: st) := fun H locs ls hP hD hS hlv => lv_iand C.1 C.2.1 hdg (kk H locs ls hP hD hS hlv)
theorem lf_land (C : LX V) {x y : Int64} (hdg : decode code pc = .ok (.land, 1)) (kk : LF V SC SM (pc + 1) L (.long (x &&& y) :: st)) : LF V SC SM pc L (.long y :: .long x :: st) := fun H locs ls hP hD hS hlv => lv_land C.1 C.2.1 hdg (kk H locs ls hP hD hS hlv)
theorem lf_lor (C : LX V) {x y : Int64} (hdg : decode code pc = .ok (.lor, 1)) (kk : LF V SC SM (pc + 1) L (.long (x ||| y) :: st)) : LF V SC SM pc L (.long y :: .long x :: st) := fun H locs ls hP hD hS hlv => lv_lor C.1 C.2.1 hdg (kk H locs ls hP hD hS hlv)
theorem lf_lshl (C : LX V) {x : Int64} {y : Int32} (hdg : decode code pc = .ok (.lshl, 1)) (kk : LF V SC SM (pc + 1) L (.long (x <<< (y.toInt64 &&& 63)) :: st)) : LF V SC SM pc L (.int y :: .long x :: st) := fun H locs ls hP hD hS hlv => lv_lshl C.1 C.2.1 hdg rfl (kk H locs ls hP hD hS hlv)
theorem lf_i2l (C : LX V) {x : Int32} (hdg : decode code pc = .ok (.i2l, 1)) (kk : LF V SC SM (pc + 1) L (.long x.toInt64 :: st)) : LF V SC SM pc L (.int x :: st) := fun H locs ls hP hD hS hlv => lv_i2l C.1 C.2.1 hdg rfl (kk H locs ls hP hD hS hlv)
theorem lf_iald (C : LX V) {i : Int32} (hin : vp_in i (uN V)) (hdg : decode code pc = .ok (.iaload, 1)) (kk : LF V SC SM (pc + 1) L (.int (ux V i.toNatClampNeg) :: st)) : LF V SC SM pc L (.int i :: .ref (ub V) :: st) := fun H locs ls hP hD hS hlv => va_sld C.1 C.2.1 C.2.2.2.2.2.2.2.2.1 C.2.2.2.2.2.2.2.2.2.1 (Nat.not_le.mpr C.2.2.2.2.2.2.2.2.2.1) hS hin hdg (kk H locs ls hP hD hS hlv)
theorem lf_alen (C : LX V) (hdg : decode code pc = .ok (.arraylength, 1)) (kk : LF V SC SM (pc + 1) L (.int (Int32.ofNat (uN V)) :: st)) : LF V SC SM pc L (.ref (ub V) :: st) := fun H locs ls hP hD hS hlv => va_slen C.1 C.2.1 C.2.2.2.2.2.2.2.2.1 C.2.2.2.2.2.2.2.2.2.1 (Nat.not_le.mpr C.2.2.2.2.2.2.2.2.2.1) hS hdg (kk H locs ls hP hD hS hlv)
theorem lf_goto (C : LX V) {off : Int} {tgt : Nat} (hdg : decode code pc = .ok (.goto off, 3)) (ht : (pc : Int) + off = (tgt : Int)) (kk : LF V SC SM tgt L st) : LF V SC SM pc L st := fun H locs ls hP hD hS hlv => lv_goto C.1 C.2.1 hdg ht (kk H locs ls hP hD hS hlv)
theorem lf_eqT (C : LX V) {x : Int32} {off : Int} {tgt : Nat} (hdg : decode code pc = .ok (.if_icmp .eq off, 3)) (ht : (pc : Int) + off = (tgt : Int)) (kk : LF V SC SM tgt L st) : LF V SC SM pc L (.int x :: .int x :: st) := fun H locs ls hP hD hS hlv => lv_icmp_eq C.1 C.2.1 hdg ht (fun _ => kk H locs ls hP hD hS hlv) (fun h => absurd rfl h)
theorem lf_iinc (C : LX V) {i : Nat} {n : Int} {x v : Int32} {L1 : List (Nat × Value)} (hdg : decode code pc = .ok (.iinc i n, 3)) (q : Nat) (hq : L[q]? = some (i, .int x)) (hv : x + Int32.ofInt n = v) (hn : i < 4) (hl : (i, Value.int v) :: L.filter (fun q => !(q.1 == i) && !(q.1 + 1 == i && q.2.category == 2)) = L1) (kk : LF V SC SM (pc + 3) L1 st) : LF V SC SM pc L st := fun H locs ls hP hD hS hlv => lv_iinc C.1 C.2.1 hdg hlv hq hv hn hl (fun ls1 h1 => kk H locs ls1 hP hD hS h1)
theorem lf_tsIn (C : LX V) {dflt lo hi : Int} {offs : Array Int} {len : Nat} {x : Int32} (z : Int) {off : Int} {tgt : Nat} (hdg : decode code pc = .ok (.tableswitch dflt lo hi offs, len)) (hx : x.toInt = z) (h1 : ¬ z < lo) (h2 : ¬ hi < z) (ho : offs[(z - lo).toNat]? = some off) (ht : (pc : Int) + off = (tgt : Int)) (kk : LF V SC SM tgt L st) : LF V SC SM pc L (.int x :: st) := fun H locs ls hP hD hS hlv => lv_tableIn C.1 C.2.1 hdg (by rw [hx]; exact h1) (by rw [hx]; exact h2) (by rw [hx]; exact ho) ht (kk H locs ls hP hD hS hlv)
theorem lf_tsOut (C : LX V) {dflt lo hi : Int} {offs : Array Int} {len : Nat} {x : Int32} {tgt : Nat} (hdg : decode code pc = .ok (.tableswitch dflt lo hi offs, len)) (h : x.toInt < lo ∨ hi < x.toInt) (ht : (pc : Int) + dflt = (tgt : Int)) (kk : LF V SC SM tgt L st) : LF V SC SM pc L (.int x :: st) := fun H locs ls hP hD hS hlv => lv_tableOut C.1 C.2.1 hdg h ht (kk H locs ls hP hD hS hlv)
theorem lf_sub (C : LX V) (ks : List Nat) {L1 : List (Nat × Value)} (hl : lv_pick L ks = L1) (kk : LF V SC SM pc L1 st) : LF V SC SM pc L st := fun H locs ls hP hD hS hlv => kk H locs ls hP hD hS (lv_sub hlv ks hl)
/-- the law's locals at its loop's head -/
abbrev LL (V : LV) (i : Int32) : List (Nat × Value) := [(3, .int i), (2, .ref (adr (uG V) 17 0)), (1, .ref (adr (uG V) 0 0)), (0, .ref (ub V))]
/-- an argument of a call: script[i + j] -/
theorem lf_arg (C : LX V) {i j : Int32} {n : Int} (h0 : decode code pc = .ok (.aload_n 0, 1)) (h1 : decode code (pc + 1) = .ok (.iload_n 3, 1)) (h2 : decode code (pc + 1 + 1) = .ok (.iconst n, 1)) (hj : Int32.ofInt n = j) (h3 : decode code (pc + 1 + 1 + 1) = .ok (.iadd, 1)) (hin : vp_in (i + j) (uN V)) (h4 : decode code (pc + 1 + 1 + 1 + 1) = .ok (.iaload, 1)) (kk : LF V SC SM (pc + 1 + 1 + 1 + 1 + 1) (LL V i) (.int (ux V (i + j).toNatClampNeg) :: st)) : LF V SC SM pc (LL V i) st := by
  refine lf_aload_n C h0 rfl 3 rfl ?_
  refine lf_iload_n C h1 rfl 0 rfl ?_
  refine lf_iconst C h2 hj ?_
  refine lf_iadd C h3 ?_
  exact lf_iald C hin h4 kk
/-- the law's end -/
theorem lf_end (C : LX V) (hdg : decode code pc = .ok (.ireturn, 1)) : LF V SC SM pc L [.int 1] := fun H locs ls _ _ hS _ => va_forget hS.2.2 (W.widen (k := 600000) (n := 7302250) (Nat.le_of_ble_eq_true rfl) (Nat.le_of_ble_eq_true rfl) (lw_ret C.1 C.2.1 C.2.2.2.2.2.2.2.2.2.2.1 C.2.2.2.2.2.2.2.2.2.2.2 hdg))
end LFS
