/-! CONSTRUCTORS: the contract of a constructor, and the call of one on the newest cell of a world -/
theorem ka_int {D : va_G} {cl : List vw_C} {tys : List (ClassId × FieldType)} {s : State} {cA cB : ClassId} (h : va_K D cl tys s) (i j : Nat) (hi : tys[i]? = some (cA, .int)) (hj : tys[j]? = some (cB, .int)) : cA = cB :=
  Option.some.inj ((show s.vm.findClass ("[" ++ FieldType.int.toString) = some cA from (h.2 i _ hi).2).symm.trans (show s.vm.findClass ("[" ++ FieldType.int.toString) = some cB from (h.2 j _ hj).2))
theorem va_nd_of : ∀ {l : List Nat}, l.Nodup → va_nd l = true
  | [], _ => rfl
  | a :: l, h => by
    rw [List.nodup_cons] at h
    simp only [va_nd, Bool.and_eq_true, decide_eq_true_eq]
    exact ⟨h.1, va_nd_of h.2⟩
theorem va_joinL {A0 : Nat → Prop} {D : va_G} {cl : List vw_C} {a wc w1 : va_W} {H H1 : Heap} (hP : va_P D cl (a ++ wc) H) (hD : va_D A0 (a ++ wc)) (hk : ∀ q : Nat, q < H.size → ¬ va_A wc H.size q → H1[q]? = H[q]?) (hF : ∀ q, va_A wc H.size q → A0 q) (hP1 : va_P D cl w1 H1) (hD1 : va_D (va_A wc H.size) w1) : va_P D cl (a ++ w1) H1 ∧ va_D A0 (a ++ w1) := by
  refine va_join (wr := a) (wc := wc) hP hD (List.range' a.length wc.length) (List.range a.length) ?_ ?_ (va_nd_of List.nodup_range) (fun i h1 h2 => ?_) hk hF hP1 hD1
  · refine List.ext_getElem? (fun i => ?_)
    rw [List.getElem?_map, List.getElem?_map]
    by_cases hi : i < wc.length
    · rw [List.getElem?_range' hi, Option.map_some, Nat.one_mul, List.getElem?_append_right (Nat.le_add_right _ _), Nat.add_sub_cancel_left, List.getElem?_eq_getElem hi]
      rfl
    · rw [List.getElem?_eq_none (by rw [List.length_range']; omega), List.getElem?_eq_none (by omega)]
      rfl
  · refine List.ext_getElem? (fun i => ?_)
    rw [List.getElem?_map, List.getElem?_map]
    by_cases hi : i < a.length
    · rw [List.getElem?_range hi, Option.map_some, List.getElem?_append_left hi, List.getElem?_eq_getElem hi]
      rfl
    · rw [List.getElem?_eq_none (by rw [List.length_range]; omega), List.getElem?_eq_none (by omega)]
      rfl
  · rw [List.mem_range] at h1
    rw [List.mem_range'] at h2
    obtain ⟨j, _, h3⟩ := h2
    omega
def CN (l : Launch) (y : MethodName) (bytes : ByteArray) (maxL fr lo mc ms : Nat) (D : va_G) (cI : ClassId) (As : List Value) (q : Nat) (ev : va_E) (w : (Nat → Nat) × ClassId → va_W) (ty : ClassId → List (ClassId × FieldType)) (X : State → Prop) : Prop :=
  ∀ sz : Nat, Met l y (Cond.code y bytes maxL none :: AW) { frames := fr, cells := mc, slots := ms, locals := lo } (va_Pc (.ref q :: As) (fun U => U.heap.size = sz ∧ va_P D vwCl [(q, ev)] U.heap ∧ va_K D vwCl [(cI, .int)] U ∧ va_D (fun _ => True) [(q, ev)] ∧ X U)) (va_Qv (fun _ : (Nat → Nat) × ClassId => True) (fun u t => va_P D vwCl (w u) t.heap ∧ va_K D vwCl (ty u.2) t ∧ va_D (va_A [(q, ev)] sz) (w u)) (va_A [(q, ev)] sz)) mc ms (va_A [(q, ev)] sz)
section KCS
variable {p : Program} {l : Launch} {e : Env} {R : Room} {s : State} {m : MethodId} {args : Array Value} {below : List Frame} {meth : Method} {c : Code} {H : Heap} {locs : List Loc} {cells slots : Nat} {Q : State → Prop}
variable {cc : ByteArray} {pc index : Nat} {ls : Array Slot} {own host : String} {nL : Nat} {A : Nat → Prop} {D : va_G} {cI : ClassId}
theorem cn_blind {q sz : Nat} {ev : va_E} {As : List Value} {X : State → Prop} (hXb : ∀ u U : State, u.vm = U.vm → X u → X U) : FrameBlind (va_Pc (.ref q :: As) (fun U => U.heap.size = sz ∧ va_P D vwCl [(q, ev)] U.heap ∧ va_K D vwCl [(cI, .int)] U ∧ va_D (fun _ => True) [(q, ev)] ∧ X U)) := fun a U g mk z => ⟨z.1, z.2.1, z.2.2.1, va_K.moved (u := U) (U := U.calling g mk a) (Vm.Alike.refl U.vm) z.2.2.2.1, z.2.2.2.2.1, hXb U (U.calling g mk a) rfl z.2.2.2.2.2⟩
/-- a constructor's call, linked as any -/
theorem kc_I {y : MethodName} {bytes : ByteArray} {maxL fr lo mc ms : Nat} {As stk : List Value} {q : Nat} {ev : va_E} {w : (Nat → Nat) × ClassId → va_W} {ty : ClassId → List (ClassId × FieldType)} {X : State → Prop} {a : va_W} (n : Nat) (rest : List Value) (S : CallFix p m c cc nL s args AW own) (hM : CN l y bytes maxL fr lo mc ms D cI As q ev w ty X) (hXb : ∀ u U : State, u.vm = U.vm → X u → X U) (hX : ∀ U : State, s.WarmedH U.vm → X U)
    (hl : Cond.methodLink own index y ∈ AW) (hc : Cond.code y bytes maxL none ∈ AW) (hi : Cond.initialized y.cls ∈ AW) (hI : Cond.instanceMethod y ∈ AW) (hd : MD y n) (hy : y.name = "<init>") (hR : fr + 1 ≤ R.frames ∧ 8 + (maxL + 11) + lo ≤ R.locals) (hn : As.length = n) (hsz : ls.size = nL) (hs : stk = As.reverse ++ .ref q :: rest) (hst : (rest.map fun v => v.category).sum ≤ 8) (hdg : decode cc pc = .ok (.invokespecial index, 3)) (hf : cells + mc ≤ R.cells ∧ slots + ms ≤ R.slots)
    (hP : va_P D vwCl (a ++ [(q, ev)]) H) (hD : va_D A (a ++ [(q, ev)])) (hK : va_K D vwCl [(cI, .int)] s) (hS : va_S A s.heap H locs) (hA : ∀ q : Nat, s.heap.size ≤ q → A q)
    (kk : ∀ (u : (Nat → Nat) × ClassId) (H1 : Heap) (locs1 : List Loc), va_P D vwCl (a ++ w u) H1 → va_D A (a ++ w u) → va_S A s.heap H1 locs1 → va_K D vwCl (ty u.2) s → W p l e R s m args below meth c H1 locs1 (cells + mc) (slots + ms) Q (F0 m (pc + 3) ls rest)) : W p l e R s m args below meth c H locs cells slots Q (F0 m pc ls stk) := by
  subst hs
  have hFc := va_free (wc := [(q, ev)]) hD hS hA [a.length] (by simp)
  have hPc : va_P D vwCl [(q, ev)] H := hP.sub [a.length] (by simp)
  have hDc := hD.sub (ws' := [(q, ev)]) [a.length] rfl (by simp)
  refine va_callv (va_runI (As := As) (rest := rest) S (hM H.size) ⟨callB_of n S.2.2.2.2 (gd_code hc) rfl rfl rfl (S.2.2.2.2 _ hi) (S.2.2.2.2 _ hl) hd hR, hy, S.2.2.2.2 _ hI⟩ ⟨cn_blind hXb, fun U hU hW => ⟨rfl, by rw [hU], by rw [hU]; exact hPc, va_K.moved hW.alike hK, hDc.weaken (fun _ _ _ _ => trivial), hX U hW⟩⟩ rfl hn hsz rfl (lv_room hst) hdg hf) hS (fun q _ h => hFc q h) hFc (fun u t H1 locs1 ht hvm _ hB _ hk1 hS1 => ?_)
  obtain ⟨hP1, hK1, hD1⟩ := hB
  rw [ht] at hP1
  obtain ⟨hP2, hD2⟩ := va_joinL hP hD hk1 hFc hP1 hD1
  exact kk u H1 locs1 hP2 hD2 hS1 (va_K.moved hvm.symm hK1)
/-- a constructor's call, of a nest mate -/
theorem kc_N {y : MethodName} {bytes : ByteArray} {maxL fr lo mc ms : Nat} {As stk : List Value} {q : Nat} {ev : va_E} {w : (Nat → Nat) × ClassId → va_W} {ty : ClassId → List (ClassId × FieldType)} {X : State → Prop} {a : va_W} (n : Nat) (rest : List Value) (S : CallFix p m c cc nL s args AW own) (hM : CN l y bytes maxL fr lo mc ms D cI As q ev w ty X) (hXb : ∀ u U : State, u.vm = U.vm → X u → X U) (hX : ∀ U : State, s.WarmedH U.vm → X U)
    (hl : va_Nw (.methodLinkNest own index y host) s) (hc : Cond.code y bytes maxL none ∈ AW) (hi : Cond.initialized y.cls ∈ AW) (hI : Cond.instanceMethod y ∈ AW) (hd : MD y n) (hy : y.name = "<init>") (hR : fr + 1 ≤ R.frames ∧ 8 + (maxL + 11) + lo ≤ R.locals) (hn : As.length = n) (hsz : ls.size = nL) (hs : stk = As.reverse ++ .ref q :: rest) (hst : (rest.map fun v => v.category).sum ≤ 8) (hdg : decode cc pc = .ok (.invokespecial index, 3)) (hf : cells + mc ≤ R.cells ∧ slots + ms ≤ R.slots)
    (hP : va_P D vwCl (a ++ [(q, ev)]) H) (hD : va_D A (a ++ [(q, ev)])) (hK : va_K D vwCl [(cI, .int)] s) (hS : va_S A s.heap H locs) (hA : ∀ q : Nat, s.heap.size ≤ q → A q)
    (kk : ∀ (u : (Nat → Nat) × ClassId) (H1 : Heap) (locs1 : List Loc), va_P D vwCl (a ++ w u) H1 → va_D A (a ++ w u) → va_S A s.heap H1 locs1 → va_K D vwCl (ty u.2) s → W p l e R s m args below meth c H1 locs1 (cells + mc) (slots + ms) Q (F0 m (pc + 3) ls rest)) : W p l e R s m args below meth c H locs cells slots Q (F0 m pc ls stk) := by
  subst hs
  have hFc := va_free (wc := [(q, ev)]) hD hS hA [a.length] (by simp)
  have hPc : va_P D vwCl [(q, ev)] H := hP.sub [a.length] (by simp)
  have hDc := hD.sub (ws' := [(q, ev)]) [a.length] rfl (by simp)
  refine va_callv (va_runIN (As := As) (rest := rest) S (hM H.size) ⟨va_cnB n S.2.2.2.2 (gd_code hc) rfl rfl rfl hl (S.2.2.2.2 _ hi) hd hR, hy, S.2.2.2.2 _ hI⟩ ⟨cn_blind hXb, fun U hU hW => ⟨rfl, by rw [hU], by rw [hU]; exact hPc, va_K.moved hW.alike hK, hDc.weaken (fun _ _ _ _ => trivial), hX U hW⟩⟩ rfl hn hsz rfl (lv_room hst) hdg hf) hS (fun q _ h => hFc q h) hFc (fun u t H1 locs1 ht hvm _ hB _ hk1 hS1 => ?_)
  obtain ⟨hP1, hK1, hD1⟩ := hB
  rw [ht] at hP1
  obtain ⟨hP2, hD2⟩ := va_joinL hP hD hk1 hFc hP1 hD1
  exact kk u H1 locs1 hP2 hD2 hS1 (va_K.moved hvm.symm hK1)
end KCS
