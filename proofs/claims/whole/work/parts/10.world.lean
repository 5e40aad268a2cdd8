/-! THE WORLD: objects by number (0 the class, 1 2 houses, 3 4 5 tables, 6..10 laws, 11 reader, 12 voices, 13..16 sheets; 17 the reference), arrays by their object and slot; a store says what int fields and arrays hold. -/
abbrev St : Type := (Nat → Nat → Int32) × (Nat → Nat → Nat → Int32)
def stI (S : St) (o k : Nat) (v : Int32) : St := (fun o' k' => if o' = o ∧ k' = k then v else S.1 o' k', S.2)
def stR (S : St) (o k : Nat) (f : Nat → Int32) : St := (S.1, fun o' k' => if o' = o ∧ k' = k then f else S.2 o' k')
def kd : Nat → Nat
  | 0 => 6 | 1 => 0 | 2 => 0 | 3 => 4 | 4 => 4 | 5 => 4 | 6 => 1 | 7 => 1 | 8 => 1 | 9 => 1 | 10 => 1 | 11 => 2 | 12 => 5 | 13 => 3 | 14 => 3 | 15 => 3 | 16 => 3 | 17 => 7 | _ => 99
def rf : Nat → Nat → Nat
  | 0, 0 => 1 | 0, 1 => 2 | 0, 2 => 3 | 0, 3 => 5 | 0, 4 => 11 | 0, 5 => 12
  | 1, 0 => 6 | 1, 1 => 7 | 1, 2 => 3 | 2, 0 => 8 | 2, 1 => 9 | 2, 2 => 4
  | 3, 0 => 6 | 3, 1 => 7 | 4, 0 => 8 | 4, 1 => 9 | 5, 0 => 6 | 5, 1 => 7 | 11, 0 => 10 | _, _ => 0
/-- the arrays of a kind: how long each is, by its slot; 0 where there is none -/
def elen : Nat → Nat → Nat
  | 0, 3 => 60 | 0, 5 => 24 | 1, 2 => 60 | 1, 3 => 60 | 2, 1 => 60 | 3, 2 => 24
  | 4, 5 => 9 | 4, 6 => 9 | 4, 7 => 9 | 4, 8 => 9 | 4, 9 => 9 | 4, 10 => 9 | 5, 0 => 30 | 6, 6 => 4 | 6, 7 => 7
  | 7, 0 => 387 | 7, 1 => 387 | 7, 2 => 53 | 7, 4 => 7 | 7, 9 => 124 | 7, 10 => 128 | 7, 11 => 64 | 7, 12 => 9 | 7, 13 => 9 | 7, 15 => 30 | 7, 18 => 4 | 7, 19 => 4 | 7, 20 => 96 | 7, 21 => 24
  | _, _ => 0
def entsOf (os : List Nat) : List (Nat × Nat) := os.flatMap (fun o => (o, 0) :: ((List.range 22).filter (fun k => elen (kd o) k != 0)).map (fun k => (o, k + 1)))
def enC : List (Nat × Nat) := entsOf (List.range 17)
def enM : List (Nat × Nat) := entsOf [17]
/-- D of the kit, the addresses, the array classes (int, boolean, Sheet), the static rows (ABOVE, BODIES, NAMES) -/
abbrev GX : Type := va_G × (Nat → Nat → Nat) × (ClassId × ClassId × ClassId) × (Nat × Nat × Nat)
def adr (G : GX) (o k : Nat) : Nat := G.2.1 o k
def oc0 (G : GX) (o : Nat) (I : Nat → Int32) : List Value := [.ref (adr G (rf o 0) 0), .ref (adr G (rf o 1) 0), .ref (adr G (rf o 2) 0), .ref (adr G o 4), .int (I 4), .ref (adr G o 6), .int (I 6), .int (I 7)]
def oc1 (G : GX) (o : Nat) (I : Nat → Int32) : List Value := [.int (I 0), .int (I 1), .ref (adr G o 3), .ref (adr G o 4), .int (I 4)]
def oc2 (G : GX) (o : Nat) (I : Nat → Int32) : List Value := [.ref (adr G (rf o 0) 0), .ref (adr G o 2), .int (I 2), .int (I 3), .int (I 4), .int (I 5)]
def oc3 (G : GX) (o : Nat) (I : Nat → Int32) : List Value := [.int (I 0), .int (I 1), .ref (adr G o 3)]
def oc4 (G : GX) (o : Nat) (I : Nat → Int32) : List Value := [.ref (adr G (rf o 0) 0), .ref (adr G (rf o 1) 0), .int (I 2), .int (I 3), .int (I 4), .ref (adr G o 6), .ref (adr G o 7), .ref (adr G o 8), .ref (adr G o 9), .ref (adr G o 10), .ref (adr G o 11)]
def oc5 (G : GX) (o : Nat) (I : Nat → Int32) : List Value := [.ref (adr G o 1), .int (I 1), .int (I 2), .int (I 3), .int (I 4), .int (I 5)]
def oc6 (G : GX) (o : Nat) (I : Nat → Int32) : List Value := [.ref (adr G (rf o 0) 0), .ref (adr G (rf o 1) 0), .ref (adr G (rf o 2) 0), .ref (adr G (rf o 3) 0), .ref (adr G (rf o 4) 0), .ref (adr G (rf o 5) 0), .ref (adr G o 7), .ref (adr G o 8), .int (I 8)]
def oc7 (G : GX) (o : Nat) (I : Nat → Int32) : List Value := [.ref (adr G o 1), .ref (adr G o 2), .ref (adr G o 3), .int (I 3), .ref (adr G o 5), .int (I 5), .int (I 6), .int (I 7), .int (I 8), .ref (adr G o 10), .ref (adr G o 11), .ref (adr G o 12), .ref (adr G o 13), .ref (adr G o 14), .int (I 14), .ref (adr G o 16), .int (I 16), .int (I 17), .ref (adr G o 19), .ref (adr G o 20), .ref (adr G o 21), .ref (adr G o 22)]
def ocell (G : GX) (o : Nat) (I : Nat → Int32) : va_E := if kd o = 0 then .inr (0, oc0 G o I) else if kd o = 1 then .inr (1, oc1 G o I) else if kd o = 2 then .inr (2, oc2 G o I) else if kd o = 3 then .inr (3, oc3 G o I) else if kd o = 4 then .inr (4, oc4 G o I) else if kd o = 5 then .inr (5, oc5 G o I) else if kd o = 6 then .inr (6, oc6 G o I) else if kd o = 7 then .inr (7, oc7 G o I) else .inr (99, [])
theorem ocell_0 {G : GX} {o : Nat} {I : Nat → Int32} (h : kd o = 0) : ocell G o I = .inr (0, oc0 G o I) := by simp [ocell, h]
theorem ocell_1 {G : GX} {o : Nat} {I : Nat → Int32} (h : kd o = 1) : ocell G o I = .inr (1, oc1 G o I) := by simp [ocell, h]
theorem ocell_2 {G : GX} {o : Nat} {I : Nat → Int32} (h : kd o = 2) : ocell G o I = .inr (2, oc2 G o I) := by simp [ocell, h]
theorem ocell_3 {G : GX} {o : Nat} {I : Nat → Int32} (h : kd o = 3) : ocell G o I = .inr (3, oc3 G o I) := by simp [ocell, h]
theorem ocell_4 {G : GX} {o : Nat} {I : Nat → Int32} (h : kd o = 4) : ocell G o I = .inr (4, oc4 G o I) := by simp [ocell, h]
theorem ocell_5 {G : GX} {o : Nat} {I : Nat → Int32} (h : kd o = 5) : ocell G o I = .inr (5, oc5 G o I) := by simp [ocell, h]
theorem ocell_6 {G : GX} {o : Nat} {I : Nat → Int32} (h : kd o = 6) : ocell G o I = .inr (6, oc6 G o I) := by simp [ocell, h]
theorem ocell_7 {G : GX} {o : Nat} {I : Nat → Int32} (h : kd o = 7) : ocell G o I = .inr (7, oc7 G o I) := by simp [ocell, h]
def acell (G : GX) (o k : Nat) (R : Nat → Int32) : va_E := if kd o = 7 ∧ k = 13 then .inl (G.2.2.1.2.1, 9, .inl R) else if kd o = 6 ∧ k = 6 then .inl (G.2.2.1.2.2, 4, .inr (.inr (.inr (.inr (fun i => some (adr G (13 + i) 0)))))) else .inl (G.2.2.1.1, elen (kd o) k, .inl R)
def ecell (G : GX) (S : St) (q : Nat × Nat) : va_E := if q.2 = 0 then ocell G q.1 (S.1 q.1) else acell G q.1 (q.2 - 1) (S.2 q.1 (q.2 - 1))
def wld (G : GX) (en : List (Nat × Nat)) (S : St) : va_W := en.map (fun q => (adr G q.1 q.2, ecell G S q))
def tysG (G : GX) : List (ClassId × FieldType) := [(G.2.2.1.1, .int), (G.2.2.1.2.1, .boolean), (G.2.2.1.2.2, .object "LeftoverRule$Sheet")]
def sABV (j : Nat) : Int32 := [-1, 0, 0, 0, 1, 2, 0].getD j 0
def sBOD (j : Nat) : Int32 := [10, 11, 12, 13, 20, 0, 0, 21, 0, 30, 0, 0, 0, 0, 40, 0, 50, 0, 51, 0, 0, 60, 0, 0, 70, 71, 0, 0].getD j 0
def sNAM (j : Nat) : Int32 := [99, 97, 115, 102, 114, 100].getD j 0
def sts (G : GX) (A : Nat → Prop) (U : State) (H : Heap) : Prop :=
  (va_Z "LeftoverRule" "ABOVE" "[I" (.ref G.2.2.2.1) A U H ∧ va_T .int G.2.2.2.1 7 (fun j => .int (sABV j)) A U H) ∧
  (va_Z "LeftoverRule" "BODIES" "[I" (.ref G.2.2.2.2.1) A U H ∧ va_T .int G.2.2.2.2.1 28 (fun j => .int (sBOD j)) A U H) ∧
  (va_Z "LeftoverRule" "NAMES" "[C" (.ref G.2.2.2.2.2) A U H ∧ va_T .char G.2.2.2.2.2 6 (fun j => .int (sNAM j)) A U H)
theorem sts_to {G : GX} {A B : Nat → Prop} {u U : State} {H H1 : Heap} (hvm : u.vm.Alike U.vm) (hq : ∀ a : Nat, a < H.size → ¬ A a → H1[a]? = H[a]?) (hAB : ∀ q, B q → A q) (h : sts G A u H) : sts G B U H1 :=
  ⟨⟨((h.1.1.moved hvm).kept hq).narrow hAB, ((h.1.2.moved hvm).kept hq).narrow hAB⟩, ⟨((h.2.1.1.moved hvm).kept hq).narrow hAB, ((h.2.1.2.moved hvm).kept hq).narrow hAB⟩, ⟨((h.2.2.1.moved hvm).kept hq).narrow hAB, ((h.2.2.2.moved hvm).kept hq).narrow hAB⟩⟩
/-- what the tables say of the nest mates that read the outer class's rows -/
def nst (U : State) : Prop := va_Nw (.fieldLinkNest RX2 86 "LeftoverRule" "NAMES" "[C" "LeftoverRule") U ∧ va_Nw (.fieldLinkNest RX5 47 "LeftoverRule" "BODIES" "[I" "LeftoverRule") U ∧ va_Nw (.fieldLinkNest RX5 50 "LeftoverRule" "ABOVE" "[I" "LeftoverRule") U
theorem nst_warm {s U : State} (hW : s.WarmedH U.vm) (h : nst s) : nst U := ⟨va_Nw.warmF hW h.1, va_Nw.warmF hW h.2.1, va_Nw.warmF hW h.2.2⟩
theorem nst_same {u U : State} (hv : u.vm = U.vm) (h : nst u) : nst U := ⟨va_Nw.same rfl hv h.1, va_Nw.same rfl hv h.2.1, va_Nw.same rfl hv h.2.2⟩
/-- what a method may change: its world's cells, and those that are new -/
def fA (G : GX) (en : List (Nat × Nat)) (sz : Nat) : Nat → Prop := fun q => (∃ e ∈ en, q = adr G e.1 e.2) ∨ sz ≤ q
theorem wld_at {G : GX} {en : List (Nat × Nat)} {S : St} {k : Nat} {q : Nat × Nat} (h : en[k]? = some q) : (wld G en S)[k]? = some (adr G q.1 q.2, ecell G S q) := by simp [wld, h]
theorem wld_of {G : GX} {en : List (Nat × Nat)} {S : St} {k : Nat} {x : Nat × va_E} (h : (wld G en S)[k]? = some x) : ∃ q, en[k]? = some q ∧ x = (adr G q.1 q.2, ecell G S q) := by
  simp only [wld, List.getElem?_map, Option.map_eq_some_iff] at h
  obtain ⟨q, h1, h2⟩ := h
  exact ⟨q, h1, h2.symm⟩
theorem va_D_st {G : GX} {en : List (Nat × Nat)} {S S1 : St} {A : Nat → Prop} (h : va_D A (wld G en S)) : va_D A (wld G en S1) := by
  refine ⟨fun i j x y hx hy hxy => ?_, fun k x hk => ?_⟩
  · obtain ⟨p, h1, rfl⟩ := wld_of hx
    obtain ⟨q, h2, rfl⟩ := wld_of hy
    exact h.1 i j (adr G p.1 p.2, ecell G S p) (adr G q.1 q.2, ecell G S q) (wld_at h1) (wld_at h2) hxy
  · obtain ⟨p, h1, rfl⟩ := wld_of hk
    have h9 := h.2 k (adr G p.1 p.2, ecell G S p) (wld_at h1)
    exact h9
theorem wld_set {G : GX} {en : List (Nat × Nat)} {S S1 : St} (hn : en.Nodup) {k : Nat} {q : Nat × Nat} (h : en[k]? = some q) (ho : ∀ p, p ≠ q → ecell G S1 p = ecell G S p) : (wld G en S).set k (adr G q.1 q.2, ecell G S1 q) = wld G en S1 := by
  refine List.ext_getElem? (fun i => ?_)
  rw [List.getElem?_set]
  have hl : k < en.length := (List.getElem?_eq_some_iff.mp h).1
  by_cases hi : k = i
  · subst hi
    rw [if_pos rfl, if_pos (by simpa [wld] using hl)]
    exact (wld_at h).symm
  · rw [if_neg hi]
    simp only [wld, List.getElem?_map]
    cases hp : en[i]? with
    | none => rfl
    | some p =>
      have hne : p ≠ q := by
        intro e
        subst e
        exact hi ((List.getElem?_inj hl hn).mp (h.trans hp.symm))
      simp [ho p hne]
theorem ecell_stI {G : GX} {S : St} {o k : Nat} {v : Int32} (p : Nat × Nat) (hp : p ≠ (o, 0)) : ecell G (stI S o k v) p = ecell G S p := by
  obtain ⟨a, b⟩ := p
  unfold ecell
  by_cases hb : b = 0
  · subst hb
    have ha : a ≠ o := fun e => hp (by rw [e])
    simp [stI, ha]
  · simp [hb, stI]
theorem ecell_stR {G : GX} {S : St} {o k : Nat} {f : Nat → Int32} (p : Nat × Nat) (hp : p ≠ (o, k + 1)) : ecell G (stR S o k f) p = ecell G S p := by
  obtain ⟨a, b⟩ := p
  unfold ecell
  by_cases hb : b = 0
  · subst hb
    simp [stR]
  · have hne : ¬ (a = o ∧ b - 1 = k) := fun e => hp (by rw [e.1, ← e.2]; congr 1; omega)
    simp [hb, stR, hne]
/-- an object of a kind is in the world, with its arrays -/
def okO (en : List (Nat × Nat)) (o k : Nat) : Prop := (o, 0) ∈ en ∧ kd o = k ∧ ∀ s, elen k s ≠ 0 → (o, s + 1) ∈ en
/-- an int row of n is in the world -/
def okA (en : List (Nat × Nat)) (o s n : Nat) : Prop := (o, s + 1) ∈ en ∧ ∀ (G : GX) (R : Nat → Int32), acell G o s R = .inl (G.2.2.1.1, n, .inl R)
theorem okA_of {en : List (Nat × Nat)} {o k : Nat} (s : Nat) {n : Nat} (h : okO en o k) (hn : elen k s = n) (h0 : n ≠ 0) (h1 : ¬ (k = 7 ∧ s = 13)) (h2 : ¬ (k = 6 ∧ s = 6)) : okA en o s n := by
  obtain ⟨ha, hb, hc⟩ := h
  refine ⟨hc s (by rw [hn]; exact h0), fun G R => ?_⟩
  unfold acell
  rw [hb, if_neg h1, if_neg h2, hn]
theorem enC_nd : enC.Nodup := by decide +kernel
theorem enM_nd : enM.Nodup := by decide +kernel
theorem okO_dec {en : List (Nat × Nat)} {o k : Nat} (h : (decide ((o, 0) ∈ en) && decide (kd o = k) && (List.range 22).all (fun s => decide (elen k s = 0) || decide ((o, s + 1) ∈ en))) = true) (hs : ∀ s, elen k s ≠ 0 → s < 22) : okO en o k := by
  simp only [Bool.and_eq_true, decide_eq_true_eq, List.all_eq_true, Bool.or_eq_true, List.mem_range] at h
  exact ⟨h.1.1, h.1.2, fun s hz => (h.2 s (hs s hz)).resolve_left hz⟩
theorem elen_lt {k s : Nat} (h : elen k s ≠ 0) : s < 22 := by
  revert h
  unfold elen
  split <;> intro h <;> first | exact Nat.le_of_ble_eq_true rfl | exact absurd rfl h
theorem okC_0 : okO enC 0 6 := okO_dec (by decide +kernel) (fun _ => elen_lt)
theorem okC_1 : okO enC 1 0 := okO_dec (by decide +kernel) (fun _ => elen_lt)
theorem okC_2 : okO enC 2 0 := okO_dec (by decide +kernel) (fun _ => elen_lt)
theorem okC_3 : okO enC 3 4 := okO_dec (by decide +kernel) (fun _ => elen_lt)
theorem okC_4 : okO enC 4 4 := okO_dec (by decide +kernel) (fun _ => elen_lt)
theorem okC_5 : okO enC 5 4 := okO_dec (by decide +kernel) (fun _ => elen_lt)
theorem okC_6 : okO enC 6 1 := okO_dec (by decide +kernel) (fun _ => elen_lt)
theorem okC_7 : okO enC 7 1 := okO_dec (by decide +kernel) (fun _ => elen_lt)
theorem okC_8 : okO enC 8 1 := okO_dec (by decide +kernel) (fun _ => elen_lt)
theorem okC_9 : okO enC 9 1 := okO_dec (by decide +kernel) (fun _ => elen_lt)
theorem okC_10 : okO enC 10 1 := okO_dec (by decide +kernel) (fun _ => elen_lt)
theorem okC_11 : okO enC 11 2 := okO_dec (by decide +kernel) (fun _ => elen_lt)
theorem okC_12 : okO enC 12 5 := okO_dec (by decide +kernel) (fun _ => elen_lt)
theorem okC_13 : okO enC 13 3 := okO_dec (by decide +kernel) (fun _ => elen_lt)
theorem okC_14 : okO enC 14 3 := okO_dec (by decide +kernel) (fun _ => elen_lt)
theorem okC_15 : okO enC 15 3 := okO_dec (by decide +kernel) (fun _ => elen_lt)
theorem okC_16 : okO enC 16 3 := okO_dec (by decide +kernel) (fun _ => elen_lt)
theorem okM_17 : okO enM 17 7 := okO_dec (by decide +kernel) (fun _ => elen_lt)
theorem okC_sheet {n : Nat} (h : n < 4) : okO enC (13 + n) 3 := by
  rcases (show n = 0 ∨ n = 1 ∨ n = 2 ∨ n = 3 by omega) with rfl | rfl | rfl | rfl
  · exact okC_13
  · exact okC_14
  · exact okC_15
  · exact okC_16
theorem kd_table {o : Nat} (h : kd o = 4) : o = 3 ∨ o = 4 ∨ o = 5 := by
  revert h
  unfold kd
  split <;> simp
theorem kd_house {o : Nat} (h : kd o = 0) : o = 1 ∨ o = 2 := by
  revert h
  unfold kd
  split <;> simp
theorem kd_reader {o : Nat} (h : kd o = 2) : o = 11 := by
  revert h
  unfold kd
  split <;> simp
theorem okC_4_0 {o : Nat} (h : okO enC o 4) : okO enC (rf o 0) 1 := by
  rcases kd_table h.2.1 with rfl | rfl | rfl
  · exact okC_6
  · exact okC_8
  · exact okC_6
theorem okC_4_1 {o : Nat} (h : okO enC o 4) : okO enC (rf o 1) 1 := by
  rcases kd_table h.2.1 with rfl | rfl | rfl
  · exact okC_7
  · exact okC_9
  · exact okC_7
theorem okC_0_0 {o : Nat} (h : okO enC o 0) : okO enC (rf o 0) 1 := by
  rcases kd_house h.2.1 with rfl | rfl
  · exact okC_6
  · exact okC_8
theorem okC_0_1 {o : Nat} (h : okO enC o 0) : okO enC (rf o 1) 1 := by
  rcases kd_house h.2.1 with rfl | rfl
  · exact okC_7
  · exact okC_9
theorem okC_0_2 {o : Nat} (h : okO enC o 0) : okO enC (rf o 2) 4 := by
  rcases kd_house h.2.1 with rfl | rfl
  · exact okC_3
  · exact okC_4
theorem okC_2_0 {o : Nat} (h : okO enC o 2) : okO enC (rf o 0) 1 := by
  rcases kd_reader h.2.1 with rfl
  exact okC_10
abbrev EV : Type := Program × Launch × Env × Room × State × MethodId × Array Value × List Frame × Method × Code × (Nat → Prop) × (State → Prop) × GX × List (Nat × Nat) × Nat
abbrev vP (E : EV) := E.1
abbrev vL (E : EV) := E.2.1
abbrev vE (E : EV) := E.2.2.1
abbrev vR (E : EV) := E.2.2.2.1
abbrev vS (E : EV) := E.2.2.2.2.1
abbrev vM (E : EV) := E.2.2.2.2.2.1
abbrev vAr (E : EV) := E.2.2.2.2.2.2.1
abbrev vB (E : EV) := E.2.2.2.2.2.2.2.1
abbrev vMe (E : EV) := E.2.2.2.2.2.2.2.2.1
abbrev vC (E : EV) := E.2.2.2.2.2.2.2.2.2.1
abbrev vA (E : EV) := E.2.2.2.2.2.2.2.2.2.2.1
abbrev vQ (E : EV) := E.2.2.2.2.2.2.2.2.2.2.2.1
abbrev vG (E : EV) := E.2.2.2.2.2.2.2.2.2.2.2.2.1
abbrev vN (E : EV) := E.2.2.2.2.2.2.2.2.2.2.2.2.2.1
abbrev vn (E : EV) := E.2.2.2.2.2.2.2.2.2.2.2.2.2.2
/-- the machine at pc with the locals L and the operand stack st, its heap holding S, comes to its end -/
def CF (E : EV) (S : St) (pc : Nat) (L : List (Nat × Value)) (st : List Value) : Prop := ∀ (H : Heap) (locs : List Loc) (ls : Array Slot), va_P (vG E).1 vwCl (wld (vG E) (vN E) S) H → va_D (vA E) (wld (vG E) (vN E) S) → va_S (vA E) (vS E).heap H locs → lv_has ls (vn E) L → W (vP E) (vL E) (vE E) (vR E) (vS E) (vM E) (vAr E) (vB E) (vMe E) (vC E) H locs 0 0 (vQ E) (F0 (vM E) pc ls st)
def CX (E : EV) (cc : ByteArray) (own : String) (nL : Nat) (en : List (Nat × Nat)) (fr lo : Nat) : Prop := (vP E).tables.exec = Jvm.exec ∧ (vC E).code = cc ∧ (vC E).maxLocals = vn E ∧ (vS E).vm.findClass own = some (vM E).cls ∧ (∀ w ∈ AW, w.before (vAr E) (vS E) = true) ∧ va_K (vG E).1 vwCl (tysG (vG E)) (vS E) ∧ vA E = fA (vG E) (vN E) (vS E).heap.size ∧ sts (vG E) (vA E) (vS E) (vS E).heap ∧ (vN E).Nodup ∧ vn E = nL ∧ vN E = en ∧ fr ≤ (vR E).frames ∧ lo ≤ (vR E).locals ∧ nst (vS E)
def RTi (E : EV) (cc : ByteArray) (Q : Int32 → St → Prop) : Prop := ∀ (S : St) (pc : Nat) (L : List (Nat × Value)) (v : Int32), decode cc pc = .ok (.ireturn, 1) → Q v S → CF E S pc L [.int v]
def RTz (E : EV) (cc : ByteArray) (Q : Int32 → St → Prop) : Prop := ∀ (S : St) (pc : Nat) (L : List (Nat × Value)) (v : Int32), decode cc pc = .ok (.ireturn, 1) → v = 0 ∨ v = 1 → Q v S → CF E S pc L [.int v]
def RTv (E : EV) (cc : ByteArray) (Q : St → Prop) : Prop := ∀ (S : St) (pc : Nat) (L : List (Nat × Value)), decode cc pc = .ok (.return_, 1) → Q S → CF E S pc L []
def RTr (E : EV) (cc : ByteArray) (Q : Nat → St → Prop) : Prop := ∀ (S : St) (pc : Nat) (L : List (Nat × Value)) (r : Nat), decode cc pc = .ok (.areturn, 1) → Q r S → CF E S pc L [.ref (adr (vG E) r 0)]
section CFR
variable {E : EV} {cc : ByteArray} {own : String} {nL fr lo : Nat} {en : List (Nat × Nat)} {S : St} {pc index : Nat} {L : List (Nat × Value)} {st : List Value}
theorem cx_en (C : CX E cc own nL en fr lo) {q : Nat × Nat} (h : q ∈ en) : q ∈ vN E := by rw [C.2.2.2.2.2.2.2.2.2.2.1]; exact h
theorem cx_nL (C : CX E cc own nL en fr lo) {i : Nat} (h : i < nL) : i < vn E := by rw [C.2.2.2.2.2.2.2.2.2.1]; exact h
theorem cf_get (C : CX E cc own nL en fr lo) {ci N : Nat} {Cn : String} {T : u_T} (hc : vwCl[ci]? = some (Cn, T, N)) (hin : ∀ w ∈ u_ws Cn T N, w ∈ AW) {o : Nat} (ho : (o, 0) ∈ en) {fs : List Value} (he : ocell (vG E) o (S.1 o) = .inr (ci, fs)) (k : Nat) (hk : k < N) {ref nm ds : String} (hl : Cond.fieldLink own index ref nm ds ∈ AW) (hT : ((T k).1, (T k).2.1, (T k).2.2.1) = (ref, nm, ds)) (hdg : decode cc pc = .ok (.getfield index, 3)) {v : Value} (hv : fs[k]? = some v) (kk : CF E S (pc + 3) L (v :: st)) : CF E S pc L (.ref (adr (vG E) o 0) :: st) := by
  intro H locs ls hP hD hS hlv
  obtain ⟨i, hi⟩ := List.getElem?_of_mem (cx_en C ho)
  obtain ⟨h1, h2, h3⟩ := (show (T k).1 = ref ∧ (T k).2.1 = nm ∧ (T k).2.2.1 = ds by
    injection hT with a b; injection b with b c; exact ⟨a, b, c⟩)
  refine va_get C.1 C.2.1 C.2.2.2.2.1 hin C.2.2.2.1 C.2.2.2.2.2.1 hP i ((wld_at hi).trans ?_) hc k hk (ref := ref) ?_ (fun x hx => by rw [← h1]; exact hx) hv hdg (kk H locs ls hP hD hS hlv)
  · unfold ecell
    rw [if_pos rfl, he]
  · rw [h2, h3]
    exact C.2.2.2.2.1 _ hl
theorem cf_put (C : CX E cc own nL en fr lo) {ci N : Nat} {Cn : String} {T : u_T} (hc : vwCl[ci]? = some (Cn, T, N)) (hin : ∀ w ∈ u_ws Cn T N, w ∈ AW) (ty0 : Nat → FieldType) (hty : ∀ k, k < N → parseFieldDescriptor (T k).2.2.1 = some (ty0 k)) (hnm : ∀ a, a < N → ∀ b, b < N → a ≠ b → (T a).2.1 ≠ (T b).2.1) {o : Nat} (ho : (o, 0) ∈ en) {x : Int32} {fs fs1 : List Value} (he : ocell (vG E) o (S.1 o) = .inr (ci, fs)) (k : Nat) (hk : k < N) (he1 : ocell (vG E) o ((stI S o k x).1 o) = .inr (ci, fs1)) {ref nm ds : String} (hl : Cond.fieldLink own index ref nm ds ∈ AW) (hT : ((T k).1, (T k).2.1, (T k).2.2.1) = (ref, nm, ds)) (hfin : (T k).2.2.2 = false) {ty : FieldType} (hd : parseFieldDescriptor (T k).2.2.1 = some ty) (hn : narrow ty (.int x) = .int x) (hfit : fits ty (.int x) = true) (hlen : k < fs.length) (hset : fs.set k (.int x) = fs1) (hdg : decode cc pc = .ok (.putfield index, 3)) (kk : CF E (stI S o k x) (pc + 3) L st) : CF E S pc L (.int x :: .ref (adr (vG E) o 0) :: st) := by
  intro H locs ls hP hD hS hlv
  obtain ⟨i, hi⟩ := List.getElem?_of_mem (cx_en C ho)
  obtain ⟨h1, h2, h3⟩ := (show (T k).1 = ref ∧ (T k).2.1 = nm ∧ (T k).2.2.1 = ds by
    injection hT with a b; injection b with b c; exact ⟨a, b, c⟩)
  refine va_put C.1 C.2.1 C.2.2.2.2.1 hin ty0 hty hnm C.2.2.2.1 C.2.2.2.2.2.1 hP hD hS i ((wld_at hi).trans (congrArg some (Prod.ext rfl (?_ : ecell (vG E) S (o, 0) = .inr (ci, fs))))) hc k hk (ref := ref) ?_ (fun x hx => by rw [← h1]; exact hx) hfin hd hn hfit hlen hdg (fun H1 locs1 hP1 hD1 hS1 => ?_)
  · unfold ecell
    rw [if_pos rfl, he]
  · rw [h2, h3]
    exact C.2.2.2.2.1 _ hl
  · have e : (wld (vG E) (vN E) S).set i (adr (vG E) o 0, .inr (ci, fs.set k (.int x))) = wld (vG E) (vN E) (stI S o k x) := by
      rw [← wld_set C.2.2.2.2.2.2.2.2.1 hi (fun p hp => ecell_stI p hp)]
      congr 1
      unfold ecell
      rw [if_pos rfl, he1, hset]
    rw [e] at hP1 hD1
    exact kk H1 locs1 ls hP1 hD1 hS1 hlv
theorem cf_iald (C : CX E cc own nL en fr lo) {o s n : Nat} {i : Int32} {B : Prop} (ha : okA en o s n) (hdg : decode cc pc = .ok (.iaload, 1)) (hm : vp_in i n ∧ B) (kk : B → CF E S (pc + 1) L (.int (S.2 o s i.toNatClampNeg) :: st)) : CF E S pc L (.int i :: .ref (adr (vG E) o (s + 1)) :: st) := by
  intro H locs ls hP hD hS hlv
  obtain ⟨j, hj⟩ := List.getElem?_of_mem (cx_en C ha.1)
  refine va_iald C.1 C.2.1 C.2.2.2.2.2.1 hP j 0 ((wld_at hj).trans (congrArg some (Prod.ext rfl (?_ : ecell (vG E) S (o, s + 1) = .inl ((vG E).2.2.1.1, n, .inl (S.2 o s)))))) rfl hm.1 hdg (kk hm.2 H locs ls hP hD hS hlv)
  unfold ecell
  rw [if_neg (Nat.succ_ne_zero s)]
  exact ha.2 _ _
theorem cf_iast (C : CX E cc own nL en fr lo) {o s n : Nat} {i x : Int32} {B : Prop} (ha : okA en o s n) (hdg : decode cc pc = .ok (.iastore, 1)) (hm : vp_in i n ∧ B) (kk : B → CF E (stR S o s (upd (S.2 o s) i.toNatClampNeg x)) (pc + 1) L st) : CF E S pc L (.int x :: .int i :: .ref (adr (vG E) o (s + 1)) :: st) := by
  intro H locs ls hP hD hS hlv
  obtain ⟨j, hj⟩ := List.getElem?_of_mem (cx_en C ha.1)
  refine va_iast C.1 C.2.1 C.2.2.2.2.2.1 hP hD hS j 0 ((wld_at hj).trans (congrArg some (Prod.ext rfl (?_ : ecell (vG E) S (o, s + 1) = .inl ((vG E).2.2.1.1, n, .inl (S.2 o s)))))) rfl hm.1 hdg (fun H1 locs1 hP1 hD1 hS1 => ?_)
  · unfold ecell
    rw [if_neg (Nat.succ_ne_zero s)]
    exact ha.2 _ _
  · have e : (wld (vG E) (vN E) S).set j (adr (vG E) o (s + 1), .inl ((vG E).2.2.1.1, n, .inl (upd (S.2 o s) i.toNatClampNeg x))) = wld (vG E) (vN E) (stR S o s (upd (S.2 o s) i.toNatClampNeg x)) := by
      rw [← wld_set C.2.2.2.2.2.2.2.2.1 hj (fun p hp => ecell_stR p hp)]
      congr 1
      unfold ecell
      rw [if_neg (Nat.succ_ne_zero s)]
      simp [ha.2, stR]
    rw [e] at hP1 hD1
    exact kk hm.2 H1 locs1 ls hP1 hD1 hS1 hlv
theorem cf_copy (C : CX E cc own nL en fr lo) {o0 s0 n0 o1 s1 n1 : Nat} {sp dp n : Int32} {B : Prop} (ha0 : okA en o0 s0 n0) (ha1 : okA en o1 s1 n1) (h1 : Cond.methodLink own index arraycopyName ∈ AW) (h2 : Cond.native arraycopyName ∈ AW) (h3 : Cond.static arraycopyName ∈ AW) (h4 : Cond.initialized "java/lang/System" ∈ AW) (hfr : 1 ≤ fr) (hlo : 8 + 64 ≤ lo) (hst : (st.map fun v => v.category).sum ≤ 8) (hdg : decode cc pc = .ok (.invokestatic index, 3)) (hm : (¬ sp < 0 ∧ ¬ dp < 0 ∧ ¬ n < 0 ∧ sp.toNatClampNeg + n.toNatClampNeg ≤ n0 ∧ dp.toNatClampNeg + n.toNatClampNeg ≤ n1) ∧ B) (kk : B → CF E (stR S o1 s1 (va_cpy (S.2 o0 s0) (S.2 o1 s1) sp.toNatClampNeg dp.toNatClampNeg n.toNatClampNeg)) (pc + 3) L st) : CF E S pc L (.int n :: .int dp :: .ref (adr (vG E) o1 (s1 + 1)) :: .int sp :: .ref (adr (vG E) o0 (s0 + 1)) :: st) := by
  intro H locs ls hP hD hS hlv
  obtain ⟨j0, hj0⟩ := List.getElem?_of_mem (cx_en C ha0.1)
  obtain ⟨j, hj⟩ := List.getElem?_of_mem (cx_en C ha1.1)
  obtain ⟨⟨g1, g2, g3, g4, g5⟩, hB⟩ := hm
  refine va_copyi C.1 C.2.1 (C.2.2.1.trans hlv.1.symm) C.2.2.2.1 (C.2.2.2.2.1 _ h1) (C.2.2.2.2.1 _ h2) (C.2.2.2.2.1 _ h3) (C.2.2.2.2.1 _ h4) C.2.2.2.2.2.1 hP hD hS j0 j 0 0 (ty := .int) ((wld_at hj0).trans (congrArg some (Prod.ext rfl (?_ : ecell (vG E) S (o0, s0 + 1) = .inl ((vG E).2.2.1.1, n0, .inl (S.2 o0 s0)))))) ((wld_at hj).trans (congrArg some (Prod.ext rfl (?_ : ecell (vG E) S (o1, s1 + 1) = .inl ((vG E).2.2.1.1, n1, .inl (S.2 o1 s1)))))) rfl rfl rfl g1 g2 g3 g4 g5 (fun _ _ => rfl) (Nat.le_trans hfr C.2.2.2.2.2.2.2.2.2.2.2.1) (Nat.le_trans (Nat.le_trans (Nat.add_le_add hst (by decide +kernel)) hlo) C.2.2.2.2.2.2.2.2.2.2.2.2.1) hdg (fun H1 locs1 hP1 hD1 hS1 => ?_)
  · unfold ecell
    rw [if_neg (Nat.succ_ne_zero s0)]
    exact ha0.2 _ _
  · unfold ecell
    rw [if_neg (Nat.succ_ne_zero s1)]
    exact ha1.2 _ _
  · have e : (wld (vG E) (vN E) S).set j (adr (vG E) o1 (s1 + 1), .inl ((vG E).2.2.1.1, n1, .inl (va_cpy (S.2 o0 s0) (S.2 o1 s1) sp.toNatClampNeg dp.toNatClampNeg n.toNatClampNeg))) = wld (vG E) (vN E) (stR S o1 s1 (va_cpy (S.2 o0 s0) (S.2 o1 s1) sp.toNatClampNeg dp.toNatClampNeg n.toNatClampNeg)) := by
      rw [← wld_set C.2.2.2.2.2.2.2.2.1 hj (fun p hp => ecell_stR p hp)]
      congr 1
      unfold ecell
      rw [if_neg (Nat.succ_ne_zero s1)]
      simp [ha1.2, stR]
    rw [e] at hP1 hD1
    exact kk hB H1 locs1 ls hP1 hD1 hS1 hlv
theorem cf_iconst (C : CX E cc own nL en fr lo) {n : Int} {v : Int32} (hdg : decode cc pc = .ok (.iconst n, 1)) (hv : Int32.ofInt n = v) (kk : CF E S (pc + 1) L (.int v :: st)) : CF E S pc L (st) := fun H locs ls hP hD hS hlv => lv_iconst C.1 C.2.1 hdg hv (kk H locs ls hP hD hS hlv)
theorem cf_bipush (C : CX E cc own nL en fr lo) {n : Int} {v : Int32} (hdg : decode cc pc = .ok (.bipush n, 2)) (hv : (Int8.ofInt n).toInt32 = v) (kk : CF E S (pc + 2) L (.int v :: st)) : CF E S pc L (st) := fun H locs ls hP hD hS hlv => lv_bipush C.1 C.2.1 hdg hv (kk H locs ls hP hD hS hlv)
theorem cf_sipush (C : CX E cc own nL en fr lo) {n : Int} {v : Int32} (hdg : decode cc pc = .ok (.sipush n, 3)) (hv : (Int16.ofInt n).toInt32 = v) (kk : CF E S (pc + 3) L (.int v :: st)) : CF E S pc L (st) := fun H locs ls hP hD hS hlv => lv_sipush C.1 C.2.1 hdg hv (kk H locs ls hP hD hS hlv)
theorem cf_lconst (C : CX E cc own nL en fr lo) {n : Fin 2} {v : Int64} (hdg : decode cc pc = .ok (.lconst n, 1)) (hv : Int64.ofNat (n : Nat) = v) (kk : CF E S (pc + 1) L (.long v :: st)) : CF E S pc L (st) := fun H locs ls hP hD hS hlv => lv_lconst C.1 C.2.1 hdg hv (kk H locs ls hP hD hS hlv)
theorem cf_ldc (C : CX E cc own nL en fr lo) {v : Int32} (hdg : decode cc pc = .ok (.ldc index, 2)) (hl : Cond.constant own index v ∈ AW) (kk : CF E S (pc + 2) L (.int v :: st)) : CF E S pc L (st) := fun H locs ls hP hD hS hlv => lv_ldc C.1 C.2.1 C.2.2.2.1 (C.2.2.2.2.1 _ hl) hdg (kk H locs ls hP hD hS hlv)
theorem cf_ldcw (C : CX E cc own nL en fr lo) {v : Int32} (hdg : decode cc pc = .ok (.ldc_w index, 3)) (hl : Cond.constant own index v ∈ AW) (kk : CF E S (pc + 3) L (.int v :: st)) : CF E S pc L (st) := fun H locs ls hP hD hS hlv => lv_ldcw C.1 C.2.1 C.2.2.2.1 (C.2.2.2.2.1 _ hl) hdg (kk H locs ls hP hD hS hlv)
theorem cf_ldc2 (C : CX E cc own nL en fr lo) {v : Int64} (hdg : decode cc pc = .ok (.ldc2_w index, 3)) (hl : Cond.constantLong own index v ∈ AW) (kk : CF E S (pc + 3) L (.long v :: st)) : CF E S pc L (st) := fun H locs ls hP hD hS hlv => lv_ldc2 C.1 C.2.1 C.2.2.2.1 (C.2.2.2.2.1 _ hl) hdg (kk H locs ls hP hD hS hlv)
theorem cf_iload_n (C : CX E cc own nL en fr lo) {k : Fin 4} {i : Nat} {x : Int32} (hdg : decode cc pc = .ok (.iload_n k, 1)) (hi : (k : Nat) = i) (q : Nat) (hq : L[q]? = some (i, .int x)) (kk : CF E S (pc + 1) L (.int x :: st)) : CF E S pc L (st) := fun H locs ls hP hD hS hlv => lv_iload_n C.1 C.2.1 hdg hi (lv_at hlv q hq) (kk H locs ls hP hD hS hlv)
theorem cf_iload (C : CX E cc own nL en fr lo) {i : Nat} {x : Int32} (hdg : decode cc pc = .ok (.iload i, 2)) (q : Nat) (hq : L[q]? = some (i, .int x)) (kk : CF E S (pc + 2) L (.int x :: st)) : CF E S pc L (st) := fun H locs ls hP hD hS hlv => lv_iload C.1 C.2.1 hdg (lv_at hlv q hq) (kk H locs ls hP hD hS hlv)
theorem cf_lload_n (C : CX E cc own nL en fr lo) {k : Fin 4} {i : Nat} {x : Int64} (hdg : decode cc pc = .ok (.lload_n k, 1)) (hi : (k : Nat) = i) (q : Nat) (hq : L[q]? = some (i, .long x)) (kk : CF E S (pc + 1) L (.long x :: st)) : CF E S pc L (st) := fun H locs ls hP hD hS hlv => lv_lload_n C.1 C.2.1 hdg hi (lv_at hlv q hq) (kk H locs ls hP hD hS hlv)
theorem cf_lload (C : CX E cc own nL en fr lo) {i : Nat} {x : Int64} (hdg : decode cc pc = .ok (.lload i, 2)) (q : Nat) (hq : L[q]? = some (i, .long x)) (kk : CF E S (pc + 2) L (.long x :: st)) : CF E S pc L (st) := fun H locs ls hP hD hS hlv => lv_lload C.1 C.2.1 hdg (lv_at hlv q hq) (kk H locs ls hP hD hS hlv)
theorem cf_aload_n (C : CX E cc own nL en fr lo) {k : Fin 4} {i : Nat} {x : Nat} (hdg : decode cc pc = .ok (.aload_n k, 1)) (hi : (k : Nat) = i) (q : Nat) (hq : L[q]? = some (i, .ref x)) (kk : CF E S (pc + 1) L (.ref x :: st)) : CF E S pc L (st) := fun H locs ls hP hD hS hlv => lv_aload_n C.1 C.2.1 hdg hi (lv_at hlv q hq) (kk H locs ls hP hD hS hlv)
theorem cf_aload (C : CX E cc own nL en fr lo) {i : Nat} {x : Nat} (hdg : decode cc pc = .ok (.aload i, 2)) (q : Nat) (hq : L[q]? = some (i, .ref x)) (kk : CF E S (pc + 2) L (.ref x :: st)) : CF E S pc L (st) := fun H locs ls hP hD hS hlv => lv_aload C.1 C.2.1 hdg (lv_at hlv q hq) (kk H locs ls hP hD hS hlv)
theorem cf_istore_n (C : CX E cc own nL en fr lo) {k : Fin 4} {i : Nat} {x : Int32} {L1 : List (Nat × Value)} (hdg : decode cc pc = .ok (.istore_n k, 1)) (hi : (k : Nat) = i) (hn : i < nL) (hl : (i, Value.int x) :: L.filter (fun q => !(q.1 == i) && !(q.1 + 1 == i && q.2.category == 2)) = L1) (kk : CF E S (pc + 1) L1 st) : CF E S pc L (.int x :: st) := fun H locs ls hP hD hS hlv => lv_istore_n C.1 C.2.1 hdg hi hlv (cx_nL C hn) hl (fun ls1 hl1 => kk H locs ls1 hP hD hS hl1)
theorem cf_istore (C : CX E cc own nL en fr lo) {i : Nat} {x : Int32} {L1 : List (Nat × Value)} (hdg : decode cc pc = .ok (.istore i, 2)) (hn : i < nL) (hl : (i, Value.int x) :: L.filter (fun q => !(q.1 == i) && !(q.1 + 1 == i && q.2.category == 2)) = L1) (kk : CF E S (pc + 2) L1 st) : CF E S pc L (.int x :: st) := fun H locs ls hP hD hS hlv => lv_istore C.1 C.2.1 hdg hlv (cx_nL C hn) hl (fun ls1 hl1 => kk H locs ls1 hP hD hS hl1)
theorem cf_astore_n (C : CX E cc own nL en fr lo) {k : Fin 4} {i : Nat} {x : Nat} {L1 : List (Nat × Value)} (hdg : decode cc pc = .ok (.astore_n k, 1)) (hi : (k : Nat) = i) (hn : i < nL) (hl : (i, Value.ref x) :: L.filter (fun q => !(q.1 == i) && !(q.1 + 1 == i && q.2.category == 2)) = L1) (kk : CF E S (pc + 1) L1 st) : CF E S pc L (.ref x :: st) := fun H locs ls hP hD hS hlv => lv_astore_n C.1 C.2.1 hdg hi hlv (cx_nL C hn) hl (fun ls1 hl1 => kk H locs ls1 hP hD hS hl1)
theorem cf_astore (C : CX E cc own nL en fr lo) {i : Nat} {x : Nat} {L1 : List (Nat × Value)} (hdg : decode cc pc = .ok (.astore i, 2)) (hn : i < nL) (hl : (i, Value.ref x) :: L.filter (fun q => !(q.1 == i) && !(q.1 + 1 == i && q.2.category == 2)) = L1) (kk : CF E S (pc + 2) L1 st) : CF E S pc L (.ref x :: st) := fun H locs ls hP hD hS hlv => lv_astore C.1 C.2.1 hdg hlv (cx_nL C hn) hl (fun ls1 hl1 => kk H locs ls1 hP hD hS hl1)
theorem cf_lstore_n (C : CX E cc own nL en fr lo) {k : Fin 4} {i : Nat} {x : Int64} {L1 : List (Nat × Value)} (hdg : decode cc pc = .ok (.lstore_n k, 1)) (hi : (k : Nat) = i) (hn : i + 1 < nL) (hl : (i, Value.long x) :: L.filter (fun q => !(q.1 == i) && (!(q.1 == i + 1) && !(q.1 + 1 == i && q.2.category == 2))) = L1) (kk : CF E S (pc + 1) L1 st) : CF E S pc L (.long x :: st) := fun H locs ls hP hD hS hlv => lv_lstore_n C.1 C.2.1 hdg hi hlv (cx_nL C hn) hl (fun ls1 hl1 => kk H locs ls1 hP hD hS hl1)
theorem cf_lstore (C : CX E cc own nL en fr lo) {i : Nat} {x : Int64} {L1 : List (Nat × Value)} (hdg : decode cc pc = .ok (.lstore i, 2)) (hn : i + 1 < nL) (hl : (i, Value.long x) :: L.filter (fun q => !(q.1 == i) && (!(q.1 == i + 1) && !(q.1 + 1 == i && q.2.category == 2))) = L1) (kk : CF E S (pc + 2) L1 st) : CF E S pc L (.long x :: st) := fun H locs ls hP hD hS hlv => lv_lstore C.1 C.2.1 hdg hlv (cx_nL C hn) hl (fun ls1 hl1 => kk H locs ls1 hP hD hS hl1)
theorem cf_iinc (C : CX E cc own nL en fr lo) {i : Nat} {n : Int} {x v : Int32} {L1 : List (Nat × Value)} (hdg : decode cc pc = .ok (.iinc i n, 3)) (q : Nat) (hq : L[q]? = some (i, .int x)) (hv : x + Int32.ofInt n = v) (hn : i < nL) (hl : (i, Value.int v) :: L.filter (fun q => !(q.1 == i) && !(q.1 + 1 == i && q.2.category == 2)) = L1) (kk : CF E S (pc + 3) L1 st) : CF E S pc L st := fun H locs ls hP hD hS hlv => lv_iinc C.1 C.2.1 hdg hlv hq hv (cx_nL C hn) hl (fun ls1 hl1 => kk H locs ls1 hP hD hS hl1)
theorem cf_iadd (C : CX E cc own nL en fr lo) {x y : Int32} (hdg : decode cc pc = .ok (.iadd, 1)) (kk : CF E S (pc + 1) L (.int (x + y) :: st)) : CF E S pc L (.int y :: .int x :: st) := fun H locs ls hP hD hS hlv => lv_iadd C.1 C.2.1 hdg (kk H locs ls hP hD hS hlv)
theorem cf_isub (C : CX E cc own nL en fr lo) {x y : Int32} (hdg : decode cc pc = .ok (.isub, 1)) (kk : CF E S (pc + 1) L (.int (x - y) :: st)) : CF E S pc L (.int y :: .int x :: st) := fun H locs ls hP hD hS hlv => lv_isub C.1 C.2.1 hdg (kk H locs ls hP hD hS hlv)
theorem cf_imul (C : CX E cc own nL en fr lo) {x y : Int32} (hdg : decode cc pc = .ok (.imul, 1)) (kk : CF E S (pc + 1) L (.int (x * y) :: st)) : CF E S pc L (.int y :: .int x :: st) := fun H locs ls hP hD hS hlv => lv_imul C.1 C.2.1 hdg (kk H locs ls hP hD hS hlv)
theorem cf_iand (C : CX E cc own nL en fr lo) {x y : Int32} (hdg : decode cc pc = .ok (.iand, 1)) (kk : CF E S (pc + 1) L (.int (x &&& y) :: st)) : CF E S pc L (.int y :: .int x :: st) := fun H locs ls hP hD hS hlv => lv_iand C.1 C.2.1 hdg (kk H locs ls hP hD hS hlv)
theorem cf_ior (C : CX E cc own nL en fr lo) {x y : Int32} (hdg : decode cc pc = .ok (.ior, 1)) (kk : CF E S (pc + 1) L (.int (x ||| y) :: st)) : CF E S pc L (.int y :: .int x :: st) := fun H locs ls hP hD hS hlv => lv_ior C.1 C.2.1 hdg (kk H locs ls hP hD hS hlv)
theorem cf_ixor (C : CX E cc own nL en fr lo) {x y : Int32} (hdg : decode cc pc = .ok (.ixor, 1)) (kk : CF E S (pc + 1) L (.int (x ^^^ y) :: st)) : CF E S pc L (.int y :: .int x :: st) := fun H locs ls hP hD hS hlv => lv_ixor C.1 C.2.1 hdg (kk H locs ls hP hD hS hlv)
theorem cf_ishl (C : CX E cc own nL en fr lo) {x y : Int32} (hdg : decode cc pc = .ok (.ishl, 1)) (kk : CF E S (pc + 1) L (.int (x <<< (y &&& 31)) :: st)) : CF E S pc L (.int y :: .int x :: st) := fun H locs ls hP hD hS hlv => lv_ishl C.1 C.2.1 hdg (kk H locs ls hP hD hS hlv)
theorem cf_ishr (C : CX E cc own nL en fr lo) {x y : Int32} (hdg : decode cc pc = .ok (.ishr, 1)) (kk : CF E S (pc + 1) L (.int (x >>> (y &&& 31)) :: st)) : CF E S pc L (.int y :: .int x :: st) := fun H locs ls hP hD hS hlv => lv_ishr C.1 C.2.1 hdg (kk H locs ls hP hD hS hlv)
theorem cf_ladd (C : CX E cc own nL en fr lo) {x y : Int64} (hdg : decode cc pc = .ok (.ladd, 1)) (kk : CF E S (pc + 1) L (.long (x + y) :: st)) : CF E S pc L (.long y :: .long x :: st) := fun H locs ls hP hD hS hlv => lv_ladd C.1 C.2.1 hdg (kk H locs ls hP hD hS hlv)
theorem cf_lsub (C : CX E cc own nL en fr lo) {x y : Int64} (hdg : decode cc pc = .ok (.lsub, 1)) (kk : CF E S (pc + 1) L (.long (x - y) :: st)) : CF E S pc L (.long y :: .long x :: st) := fun H locs ls hP hD hS hlv => lv_lsub C.1 C.2.1 hdg (kk H locs ls hP hD hS hlv)
theorem cf_lmul (C : CX E cc own nL en fr lo) {x y : Int64} (hdg : decode cc pc = .ok (.lmul, 1)) (kk : CF E S (pc + 1) L (.long (x * y) :: st)) : CF E S pc L (.long y :: .long x :: st) := fun H locs ls hP hD hS hlv => lv_lmul C.1 C.2.1 hdg (kk H locs ls hP hD hS hlv)
theorem cf_land (C : CX E cc own nL en fr lo) {x y : Int64} (hdg : decode cc pc = .ok (.land, 1)) (kk : CF E S (pc + 1) L (.long (x &&& y) :: st)) : CF E S pc L (.long y :: .long x :: st) := fun H locs ls hP hD hS hlv => lv_land C.1 C.2.1 hdg (kk H locs ls hP hD hS hlv)
theorem cf_lor (C : CX E cc own nL en fr lo) {x y : Int64} (hdg : decode cc pc = .ok (.lor, 1)) (kk : CF E S (pc + 1) L (.long (x ||| y) :: st)) : CF E S pc L (.long y :: .long x :: st) := fun H locs ls hP hD hS hlv => lv_lor C.1 C.2.1 hdg (kk H locs ls hP hD hS hlv)
theorem cf_lxor (C : CX E cc own nL en fr lo) {x y : Int64} (hdg : decode cc pc = .ok (.lxor, 1)) (kk : CF E S (pc + 1) L (.long (x ^^^ y) :: st)) : CF E S pc L (.long y :: .long x :: st) := fun H locs ls hP hD hS hlv => lv_lxor C.1 C.2.1 hdg (kk H locs ls hP hD hS hlv)
theorem cf_ineg (C : CX E cc own nL en fr lo) {x : Int32} (hdg : decode cc pc = .ok (.ineg, 1)) (kk : CF E S (pc + 1) L (.int (-x) :: st)) : CF E S pc L (.int x :: st) := fun H locs ls hP hD hS hlv => lv_ineg C.1 C.2.1 hdg (kk H locs ls hP hD hS hlv)
theorem cf_iushr (C : CX E cc own nL en fr lo) {x y : Int32} (hdg : decode cc pc = .ok (.iushr, 1)) (kk : CF E S (pc + 1) L (.int ((x.toUInt32 >>> (y.toUInt32 &&& Int32.toUInt32 31)).toInt32) :: st)) : CF E S pc L (.int y :: .int x :: st) := fun H locs ls hP hD hS hlv => lv_iushr C.1 C.2.1 hdg rfl (kk H locs ls hP hD hS hlv)
theorem cf_lushr (C : CX E cc own nL en fr lo) {x : Int64} {y : Int32} (hdg : decode cc pc = .ok (.lushr, 1)) (kk : CF E S (pc + 1) L (.long ((x.toUInt64 >>> (y.toInt64.toUInt64 &&& Int64.toUInt64 63)).toInt64) :: st)) : CF E S pc L (.int y :: .long x :: st) := fun H locs ls hP hD hS hlv => lv_lushr C.1 C.2.1 hdg rfl (kk H locs ls hP hD hS hlv)
theorem cf_lshl (C : CX E cc own nL en fr lo) {x : Int64} {y : Int32} (hdg : decode cc pc = .ok (.lshl, 1)) (kk : CF E S (pc + 1) L (.long (x <<< (y.toInt64 &&& 63)) :: st)) : CF E S pc L (.int y :: .long x :: st) := fun H locs ls hP hD hS hlv => lv_lshl C.1 C.2.1 hdg rfl (kk H locs ls hP hD hS hlv)
theorem cf_lshr (C : CX E cc own nL en fr lo) {x : Int64} {y : Int32} (hdg : decode cc pc = .ok (.lshr, 1)) (kk : CF E S (pc + 1) L (.long (x >>> (y.toInt64 &&& 63)) :: st)) : CF E S pc L (.int y :: .long x :: st) := fun H locs ls hP hD hS hlv => lv_lshr C.1 C.2.1 hdg rfl (kk H locs ls hP hD hS hlv)
theorem cf_i2l (C : CX E cc own nL en fr lo) {x : Int32} (hdg : decode cc pc = .ok (.i2l, 1)) (kk : CF E S (pc + 1) L (.long x.toInt64 :: st)) : CF E S pc L (.int x :: st) := fun H locs ls hP hD hS hlv => lv_i2l C.1 C.2.1 hdg rfl (kk H locs ls hP hD hS hlv)
theorem cf_l2i (C : CX E cc own nL en fr lo) {x : Int64} (hdg : decode cc pc = .ok (.l2i, 1)) (kk : CF E S (pc + 1) L (.int x.toInt32 :: st)) : CF E S pc L (.long x :: st) := fun H locs ls hP hD hS hlv => lv_l2i C.1 C.2.1 hdg rfl (kk H locs ls hP hD hS hlv)
theorem cf_i2b (C : CX E cc own nL en fr lo) {x : Int32} (hdg : decode cc pc = .ok (.i2b, 1)) (kk : CF E S (pc + 1) L (.int x.toInt8.toInt32 :: st)) : CF E S pc L (.int x :: st) := fun H locs ls hP hD hS hlv => lv_i2b C.1 C.2.1 hdg rfl (kk H locs ls hP hD hS hlv)
theorem cf_i2s (C : CX E cc own nL en fr lo) {x : Int32} (hdg : decode cc pc = .ok (.i2s, 1)) (kk : CF E S (pc + 1) L (.int x.toInt16.toInt32 :: st)) : CF E S pc L (.int x :: st) := fun H locs ls hP hD hS hlv => lv_i2s C.1 C.2.1 hdg rfl (kk H locs ls hP hD hS hlv)
theorem cf_lcmp (C : CX E cc own nL en fr lo) {x y : Int64} (hdg : decode cc pc = .ok (.lcmp, 1)) (kk : CF E S (pc + 1) L (.int (lg_cmp x y) :: st)) : CF E S pc L (.long y :: .long x :: st) := fun H locs ls hP hD hS hlv => W.lcmp C.1 C.2.1 hdg (kk H locs ls hP hD hS hlv)
theorem cf_idiv (C : CX E cc own nL en fr lo) {x y : Int32} {B : Prop} (hdg : decode cc pc = .ok (.idiv, 1)) (hm : (¬ y = 0) ∧ B) (kk : B → CF E S (pc + 1) L (.int (x / y) :: st)) : CF E S pc L (.int y :: .int x :: st) := fun H locs ls hP hD hS hlv => lv_idiv C.1 C.2.1 hdg hm.1 (kk hm.2 H locs ls hP hD hS hlv)
theorem cf_irem (C : CX E cc own nL en fr lo) {x y : Int32} {B : Prop} (hdg : decode cc pc = .ok (.irem, 1)) (hm : (¬ y = 0) ∧ B) (kk : B → CF E S (pc + 1) L (.int (x - x / y * y) :: st)) : CF E S pc L (.int y :: .int x :: st) := fun H locs ls hP hD hS hlv => lv_irem C.1 C.2.1 hdg hm.1 (kk hm.2 H locs ls hP hD hS hlv)
theorem cf_dup (C : CX E cc own nL en fr lo) {va : Value} (hdg : decode cc pc = .ok (.dup, 1)) (h1 : va.category = 1) (kk : CF E S (pc + 1) L (va :: va :: st)) : CF E S pc L (va :: st) := fun H locs ls hP hD hS hlv => lv_dup C.1 C.2.1 hdg h1 (kk H locs ls hP hD hS hlv)
theorem cf_pop (C : CX E cc own nL en fr lo) {va : Value} (hdg : decode cc pc = .ok (.pop, 1)) (h1 : va.category = 1) (kk : CF E S (pc + 1) L (st)) : CF E S pc L (va :: st) := fun H locs ls hP hD hS hlv => lv_pop C.1 C.2.1 hdg h1 (kk H locs ls hP hD hS hlv)
theorem cf_dup_x1 (C : CX E cc own nL en fr lo) {va vb : Value} (hdg : decode cc pc = .ok (.dup_x1, 1)) (h1 : va.category = 1) (h2 : vb.category = 1) (kk : CF E S (pc + 1) L (va :: vb :: va :: st)) : CF E S pc L (va :: vb :: st) := fun H locs ls hP hD hS hlv => lv_dup_x1 C.1 C.2.1 hdg h1 h2 (kk H locs ls hP hD hS hlv)
theorem cf_dup_x2 (C : CX E cc own nL en fr lo) {va vb vd : Value} (hdg : decode cc pc = .ok (.dup_x2, 1)) (h1 : va.category = 1) (h2 : vb.category = 1) (h3 : vd.category = 1) (kk : CF E S (pc + 1) L (va :: vb :: vd :: va :: st)) : CF E S pc L (va :: vb :: vd :: st) := fun H locs ls hP hD hS hlv => lv_dup_x2 C.1 C.2.1 hdg h1 h2 h3 (kk H locs ls hP hD hS hlv)
theorem cf_dup2 (C : CX E cc own nL en fr lo) {va vb : Value} (hdg : decode cc pc = .ok (.dup2, 1)) (h1 : va.category = 1) (h2 : vb.category = 1) (kk : CF E S (pc + 1) L (va :: vb :: va :: vb :: st)) : CF E S pc L (va :: vb :: st) := fun H locs ls hP hD hS hlv => lv_dup2_11 C.1 C.2.1 hdg h1 h2 (kk H locs ls hP hD hS hlv)
theorem cf_if_eq (C : CX E cc own nL en fr lo) {x : Int32} {off : Int} {tgt : Nat} {A B : Prop} (hdg : decode cc pc = .ok (.ifCond .eq off, 3)) (ht : (pc : Int) + off = (tgt : Int)) (hm : if x = 0 then A else B) (kt : A → CF E S tgt L st) (kf : B → CF E S (pc + 3) L st) : CF E S pc L (.int x :: st) := fun H locs ls hP hD hS hlv => lv_if_eq C.1 C.2.1 hdg ht (fun c => kt (by rw [if_pos c] at hm; exact hm) H locs ls hP hD hS hlv) (fun c => kf (by rw [if_neg c] at hm; exact hm) H locs ls hP hD hS hlv)
theorem cf_icmp_eq (C : CX E cc own nL en fr lo) {x y : Int32} {off : Int} {tgt : Nat} {A B : Prop} (hdg : decode cc pc = .ok (.if_icmp .eq off, 3)) (ht : (pc : Int) + off = (tgt : Int)) (hm : if x = y then A else B) (kt : A → CF E S tgt L st) (kf : B → CF E S (pc + 3) L st) : CF E S pc L (.int y :: .int x :: st) := fun H locs ls hP hD hS hlv => lv_icmp_eq C.1 C.2.1 hdg ht (fun c => kt (by rw [if_pos c] at hm; exact hm) H locs ls hP hD hS hlv) (fun c => kf (by rw [if_neg c] at hm; exact hm) H locs ls hP hD hS hlv)
theorem cf_if_ne (C : CX E cc own nL en fr lo) {x : Int32} {off : Int} {tgt : Nat} {A B : Prop} (hdg : decode cc pc = .ok (.ifCond .ne off, 3)) (ht : (pc : Int) + off = (tgt : Int)) (hm : if x = 0 then B else A) (kt : A → CF E S tgt L st) (kf : B → CF E S (pc + 3) L st) : CF E S pc L (.int x :: st) := fun H locs ls hP hD hS hlv => lv_if_ne C.1 C.2.1 hdg ht (fun c => kt (by rw [if_neg c] at hm; exact hm) H locs ls hP hD hS hlv) (fun c => kf (by rw [if_pos c] at hm; exact hm) H locs ls hP hD hS hlv)
theorem cf_icmp_ne (C : CX E cc own nL en fr lo) {x y : Int32} {off : Int} {tgt : Nat} {A B : Prop} (hdg : decode cc pc = .ok (.if_icmp .ne off, 3)) (ht : (pc : Int) + off = (tgt : Int)) (hm : if x = y then B else A) (kt : A → CF E S tgt L st) (kf : B → CF E S (pc + 3) L st) : CF E S pc L (.int y :: .int x :: st) := fun H locs ls hP hD hS hlv => lv_icmp_ne C.1 C.2.1 hdg ht (fun c => kt (by rw [if_neg c] at hm; exact hm) H locs ls hP hD hS hlv) (fun c => kf (by rw [if_pos c] at hm; exact hm) H locs ls hP hD hS hlv)
theorem cf_if_lt (C : CX E cc own nL en fr lo) {x : Int32} {off : Int} {tgt : Nat} {A B : Prop} (hdg : decode cc pc = .ok (.ifCond .lt off, 3)) (ht : (pc : Int) + off = (tgt : Int)) (hm : if x < 0 then A else B) (kt : A → CF E S tgt L st) (kf : B → CF E S (pc + 3) L st) : CF E S pc L (.int x :: st) := fun H locs ls hP hD hS hlv => lv_if_lt C.1 C.2.1 hdg ht (fun c => kt (by rw [if_pos c] at hm; exact hm) H locs ls hP hD hS hlv) (fun c => kf (by rw [if_neg c] at hm; exact hm) H locs ls hP hD hS hlv)
theorem cf_icmp_lt (C : CX E cc own nL en fr lo) {x y : Int32} {off : Int} {tgt : Nat} {A B : Prop} (hdg : decode cc pc = .ok (.if_icmp .lt off, 3)) (ht : (pc : Int) + off = (tgt : Int)) (hm : if x < y then A else B) (kt : A → CF E S tgt L st) (kf : B → CF E S (pc + 3) L st) : CF E S pc L (.int y :: .int x :: st) := fun H locs ls hP hD hS hlv => lv_icmp_lt C.1 C.2.1 hdg ht (fun c => kt (by rw [if_pos c] at hm; exact hm) H locs ls hP hD hS hlv) (fun c => kf (by rw [if_neg c] at hm; exact hm) H locs ls hP hD hS hlv)
theorem cf_if_ge (C : CX E cc own nL en fr lo) {x : Int32} {off : Int} {tgt : Nat} {A B : Prop} (hdg : decode cc pc = .ok (.ifCond .ge off, 3)) (ht : (pc : Int) + off = (tgt : Int)) (hm : if 0 ≤ x then A else B) (kt : A → CF E S tgt L st) (kf : B → CF E S (pc + 3) L st) : CF E S pc L (.int x :: st) := fun H locs ls hP hD hS hlv => lv_if_ge C.1 C.2.1 hdg ht (fun c => kt (by rw [if_pos c] at hm; exact hm) H locs ls hP hD hS hlv) (fun c => kf (by rw [if_neg c] at hm; exact hm) H locs ls hP hD hS hlv)
theorem cf_icmp_ge (C : CX E cc own nL en fr lo) {x y : Int32} {off : Int} {tgt : Nat} {A B : Prop} (hdg : decode cc pc = .ok (.if_icmp .ge off, 3)) (ht : (pc : Int) + off = (tgt : Int)) (hm : if y ≤ x then A else B) (kt : A → CF E S tgt L st) (kf : B → CF E S (pc + 3) L st) : CF E S pc L (.int y :: .int x :: st) := fun H locs ls hP hD hS hlv => lv_icmp_ge C.1 C.2.1 hdg ht (fun c => kt (by rw [if_pos c] at hm; exact hm) H locs ls hP hD hS hlv) (fun c => kf (by rw [if_neg c] at hm; exact hm) H locs ls hP hD hS hlv)
theorem cf_if_gt (C : CX E cc own nL en fr lo) {x : Int32} {off : Int} {tgt : Nat} {A B : Prop} (hdg : decode cc pc = .ok (.ifCond .gt off, 3)) (ht : (pc : Int) + off = (tgt : Int)) (hm : if 0 < x then A else B) (kt : A → CF E S tgt L st) (kf : B → CF E S (pc + 3) L st) : CF E S pc L (.int x :: st) := fun H locs ls hP hD hS hlv => lv_if_gt C.1 C.2.1 hdg ht (fun c => kt (by rw [if_pos c] at hm; exact hm) H locs ls hP hD hS hlv) (fun c => kf (by rw [if_neg c] at hm; exact hm) H locs ls hP hD hS hlv)
theorem cf_icmp_gt (C : CX E cc own nL en fr lo) {x y : Int32} {off : Int} {tgt : Nat} {A B : Prop} (hdg : decode cc pc = .ok (.if_icmp .gt off, 3)) (ht : (pc : Int) + off = (tgt : Int)) (hm : if y < x then A else B) (kt : A → CF E S tgt L st) (kf : B → CF E S (pc + 3) L st) : CF E S pc L (.int y :: .int x :: st) := fun H locs ls hP hD hS hlv => lv_icmp_gt C.1 C.2.1 hdg ht (fun c => kt (by rw [if_pos c] at hm; exact hm) H locs ls hP hD hS hlv) (fun c => kf (by rw [if_neg c] at hm; exact hm) H locs ls hP hD hS hlv)
theorem cf_if_le (C : CX E cc own nL en fr lo) {x : Int32} {off : Int} {tgt : Nat} {A B : Prop} (hdg : decode cc pc = .ok (.ifCond .le off, 3)) (ht : (pc : Int) + off = (tgt : Int)) (hm : if x ≤ 0 then A else B) (kt : A → CF E S tgt L st) (kf : B → CF E S (pc + 3) L st) : CF E S pc L (.int x :: st) := fun H locs ls hP hD hS hlv => lv_if_le C.1 C.2.1 hdg ht (fun c => kt (by rw [if_pos c] at hm; exact hm) H locs ls hP hD hS hlv) (fun c => kf (by rw [if_neg c] at hm; exact hm) H locs ls hP hD hS hlv)
theorem cf_icmp_le (C : CX E cc own nL en fr lo) {x y : Int32} {off : Int} {tgt : Nat} {A B : Prop} (hdg : decode cc pc = .ok (.if_icmp .le off, 3)) (ht : (pc : Int) + off = (tgt : Int)) (hm : if x ≤ y then A else B) (kt : A → CF E S tgt L st) (kf : B → CF E S (pc + 3) L st) : CF E S pc L (.int y :: .int x :: st) := fun H locs ls hP hD hS hlv => lv_icmp_le C.1 C.2.1 hdg ht (fun c => kt (by rw [if_pos c] at hm; exact hm) H locs ls hP hD hS hlv) (fun c => kf (by rw [if_neg c] at hm; exact hm) H locs ls hP hD hS hlv)
theorem cf_goto (C : CX E cc own nL en fr lo) {off : Int} {tgt : Nat} (hdg : decode cc pc = .ok (.goto off, 3)) (ht : (pc : Int) + off = (tgt : Int)) (kk : CF E S tgt L st) : CF E S pc L st := fun H locs ls hP hD hS hlv => lv_goto C.1 C.2.1 hdg ht (kk H locs ls hP hD hS hlv)
theorem cf_tsOut (C : CX E cc own nL en fr lo) {dflt lo hi : Int} {offs : Array Int} {len : Nat} {x : Int32} {tgt : Nat} (hdg : decode cc pc = .ok (.tableswitch dflt lo hi offs, len)) (h : x.toInt < lo ∨ hi < x.toInt) (ht : (pc : Int) + dflt = (tgt : Int)) (kk : CF E S tgt L st) : CF E S pc L (.int x :: st) := fun H locs ls hP hD hS hlv => lv_tableOut C.1 C.2.1 hdg h ht (kk H locs ls hP hD hS hlv)
theorem cf_tsIn (C : CX E cc own nL en fr lo) {dflt lo hi : Int} {offs : Array Int} {len : Nat} {x : Int32} (z : Int) {off : Int} {tgt : Nat} (hdg : decode cc pc = .ok (.tableswitch dflt lo hi offs, len)) (hx : x.toInt = z) (h1 : ¬ z < lo) (h2 : ¬ hi < z) (ho : offs[(z - lo).toNat]? = some off) (ht : (pc : Int) + off = (tgt : Int)) (kk : CF E S tgt L st) : CF E S pc L (.int x :: st) := fun H locs ls hP hD hS hlv => lv_tableIn C.1 C.2.1 hdg (by rw [hx]; exact h1) (by rw [hx]; exact h2) (by rw [hx]; exact ho) ht (kk H locs ls hP hD hS hlv)
theorem cf_tsD (C : CX E cc own nL en fr lo) {dflt lo1 hi : Int} {offs : Array Int} {len : Nat} {x : Int32} {tgt : Nat} (n : Nat) (keys : List Int) (hdg : decode cc pc = .ok (.tableswitch dflt lo1 hi offs, len)) (hhi : hi + 1 = lo1 + (n : Int)) (hk : ∀ j : Nat, j < n → (lo1 + (j : Int)) ∉ keys → offs[j]? = some dflt) (hx : ∀ k ∈ keys, ¬ x.toInt = k) (ht : (pc : Int) + dflt = (tgt : Int)) (kk : CF E S tgt L st) : CF E S pc L (.int x :: st) := by
  by_cases h1 : x.toInt < lo1
  · exact cf_tsOut C hdg (Or.inl h1) ht kk
  · by_cases h2 : hi < x.toInt
    · exact cf_tsOut C hdg (Or.inr h2) ht kk
    · refine cf_tsIn C x.toInt hdg rfl h1 h2 (hk (x.toInt - lo1).toNat (by omega) (fun hm => ?_)) ht kk
      rw [show lo1 + ((x.toInt - lo1).toNat : Int) = x.toInt by omega] at hm
      exact hx _ hm rfl
theorem cf_sub (C : CX E cc own nL en fr lo) (ks : List Nat) {L1 : List (Nat × Value)} (hl : lv_pick L ks = L1) (kk : CF E S pc L1 st) : CF E S pc L st := fun H locs ls hP hD hS hlv => kk H locs ls hP hD hS (lv_sub hlv ks hl)
def nmS (S1 : St) (P : St → Prop) : Prop := P S1
def nmI (x : Int32) (P : Int32 → Prop) : Prop := P x
def nmL (x : Int64) (P : Int64 → Prop) : Prop := P x
theorem cf_nmS {P : St → Prop} (hm : nmS S P) (kk : ∀ S1, P S1 → CF E S1 pc L st) : CF E S pc L st := kk S hm
theorem cf_nmI {x : Int32} {P : Int32 → Prop} (hm : nmI x P) (kk : ∀ v, P v → CF E S pc L (.int v :: st)) : CF E S pc L (.int x :: st) := kk x hm
theorem cf_nmL {x : Int64} {P : Int64 → Prop} (hm : nmL x P) (kk : ∀ v, P v → CF E S pc L (.long v :: st)) : CF E S pc L (.long x :: st) := kk x hm
theorem cf_lk (C : CX E cc own nL en fr lo) {dflt : Int} {ps : Array (Int × Int)} {len : Nat} {x : Int32} {off : Int} {tgt : Nat} (hdg : decode cc pc = .ok (.lookupswitch dflt ps, len)) (hp : (ps.toList.zip (ps.toList.drop 1)).all (fun (a, next) => a.1 < next.1) = true) (ho : Op.lookupswitch.offset ps.toList dflt x.toInt = off) (ht : (pc : Int) + off = (tgt : Int)) (kk : CF E S tgt L st) : CF E S pc L (.int x :: st) := fun H locs ls hP hD hS hlv => lv_lookup C.1 C.2.1 hdg hp ho ht (kk H locs ls hP hD hS hlv)
theorem ifc {c A B : Prop} [Decidable c] (h : if c then A else B) : (c ∧ A) ∨ (¬ c ∧ B) := by by_cases hc : c <;> simp_all
theorem cf_gs_ABOVE (C : CX E cc own nL en fr lo) (hl : Cond.fieldLink own index "LeftoverRule" "ABOVE" "[I" ∈ AW) (hdg : decode cc pc = .ok (.getstatic index, 3)) (kk : CF E S (pc + 3) L (.ref (vG E).2.2.2.1 :: st)) : CF E S pc L st := fun H locs ls hP hD hS hlv => va_gets C.1 C.2.1 C.2.2.2.2.2.2.2.1.1.1 hS C.2.2.2.1 (C.2.2.2.2.1 _ hl) (fun _ h => h) hdg (kk H locs ls hP hD hS hlv)
theorem cf_gsN_ABOVE (C : CX E cc RX5 nL en fr lo) (hdg : decode cc pc = .ok (.getstatic 50, 3)) (kk : CF E S (pc + 3) L (.ref (vG E).2.2.2.1 :: st)) : CF E S pc L st := fun H locs ls hP hD hS hlv => va_getsN C.1 C.2.1 C.2.2.2.2.2.2.2.1.1.1 hS C.2.2.2.1 (va_Nw.use rfl C.2.2.2.2.2.2.2.2.2.2.2.2.2.2.2) (fun _ h => h) hdg (kk H locs ls hP hD hS hlv)
theorem cf_sl_ABOVE (C : CX E cc own nL en fr lo) {i : Int32} {B : Prop} (hdg : decode cc pc = .ok (.iaload, 1)) (hm : vp_in i 7 ∧ B) (kk : B → CF E S (pc + 1) L (.int (sABV i.toNatClampNeg) :: st)) : CF E S pc L (.int i :: .ref (vG E).2.2.2.1 :: st) := fun H locs ls hP hD hS hlv => va_ti C.1 C.2.1 C.2.2.2.2.2.2.2.1.1.2 hS hm.1 rfl hdg (kk hm.2 H locs ls hP hD hS hlv)
theorem cf_gs_BODIES (C : CX E cc own nL en fr lo) (hl : Cond.fieldLink own index "LeftoverRule" "BODIES" "[I" ∈ AW) (hdg : decode cc pc = .ok (.getstatic index, 3)) (kk : CF E S (pc + 3) L (.ref (vG E).2.2.2.2.1 :: st)) : CF E S pc L st := fun H locs ls hP hD hS hlv => va_gets C.1 C.2.1 C.2.2.2.2.2.2.2.1.2.1.1 hS C.2.2.2.1 (C.2.2.2.2.1 _ hl) (fun _ h => h) hdg (kk H locs ls hP hD hS hlv)
theorem cf_gsN_BODIES (C : CX E cc RX5 nL en fr lo) (hdg : decode cc pc = .ok (.getstatic 47, 3)) (kk : CF E S (pc + 3) L (.ref (vG E).2.2.2.2.1 :: st)) : CF E S pc L st := fun H locs ls hP hD hS hlv => va_getsN C.1 C.2.1 C.2.2.2.2.2.2.2.1.2.1.1 hS C.2.2.2.1 (va_Nw.use rfl C.2.2.2.2.2.2.2.2.2.2.2.2.2.2.1) (fun _ h => h) hdg (kk H locs ls hP hD hS hlv)
theorem cf_sl_BODIES (C : CX E cc own nL en fr lo) {i : Int32} {B : Prop} (hdg : decode cc pc = .ok (.iaload, 1)) (hm : vp_in i 28 ∧ B) (kk : B → CF E S (pc + 1) L (.int (sBOD i.toNatClampNeg) :: st)) : CF E S pc L (.int i :: .ref (vG E).2.2.2.2.1 :: st) := fun H locs ls hP hD hS hlv => va_ti C.1 C.2.1 C.2.2.2.2.2.2.2.1.2.1.2 hS hm.1 rfl hdg (kk hm.2 H locs ls hP hD hS hlv)
theorem cf_gs_NAMES (C : CX E cc own nL en fr lo) (hl : Cond.fieldLink own index "LeftoverRule" "NAMES" "[C" ∈ AW) (hdg : decode cc pc = .ok (.getstatic index, 3)) (kk : CF E S (pc + 3) L (.ref (vG E).2.2.2.2.2 :: st)) : CF E S pc L st := fun H locs ls hP hD hS hlv => va_gets C.1 C.2.1 C.2.2.2.2.2.2.2.1.2.2.1 hS C.2.2.2.1 (C.2.2.2.2.1 _ hl) (fun _ h => h) hdg (kk H locs ls hP hD hS hlv)
theorem cf_gsN_NAMES (C : CX E cc RX2 nL en fr lo) (hdg : decode cc pc = .ok (.getstatic 86, 3)) (kk : CF E S (pc + 3) L (.ref (vG E).2.2.2.2.2 :: st)) : CF E S pc L st := fun H locs ls hP hD hS hlv => va_getsN C.1 C.2.1 C.2.2.2.2.2.2.2.1.2.2.1 hS C.2.2.2.1 (va_Nw.use rfl C.2.2.2.2.2.2.2.2.2.2.2.2.2.1) (fun _ h => h) hdg (kk H locs ls hP hD hS hlv)
theorem cf_sl_NAMES (C : CX E cc own nL en fr lo) {i : Int32} {B : Prop} (hdg : decode cc pc = .ok (.caload, 1)) (hm : vp_in i 6 ∧ B) (kk : B → CF E S (pc + 1) L (.int (sNAM i.toNatClampNeg) :: st)) : CF E S pc L (.int i :: .ref (vG E).2.2.2.2.2 :: st) := fun H locs ls hP hD hS hlv => va_tc C.1 C.2.1 C.2.2.2.2.2.2.2.1.2.2.2 hS hm.1 rfl hdg (kk hm.2 H locs ls hP hD hS hlv)
theorem cf_zald (C : CX E cc own nL enM fr lo) {i : Int32} {B : Prop} (hdg : decode cc pc = .ok (.baload, 1)) (hm : vp_in i 9 ∧ B) (kk : B → CF E S (pc + 1) L (.int (S.2 17 13 i.toNatClampNeg) :: st)) : CF E S pc L (.int i :: .ref (adr (vG E) 17 14) :: st) := by
  intro H locs ls hP hD hS hlv
  obtain ⟨j, hj⟩ := List.getElem?_of_mem (cx_en C (show (17, 14) ∈ enM by decide +kernel))
  exact va_zald C.1 C.2.1 C.2.2.2.2.2.1 hP j 1 ((wld_at hj).trans rfl) rfl hm.1 hdg (kk hm.2 H locs ls hP hD hS hlv)
theorem cf_zast (C : CX E cc own nL enM fr lo) {i x : Int32} {B : Prop} (hdg : decode cc pc = .ok (.bastore, 1)) (hm : vp_in i 9 ∧ B) (kk : B → CF E (stR S 17 13 (upd (S.2 17 13) i.toNatClampNeg (vp_nar .boolean x))) (pc + 1) L st) : CF E S pc L (.int x :: .int i :: .ref (adr (vG E) 17 14) :: st) := by
  intro H locs ls hP hD hS hlv
  obtain ⟨j, hj⟩ := List.getElem?_of_mem (cx_en C (show (17, 14) ∈ enM by decide +kernel))
  refine va_zast C.1 C.2.1 C.2.2.2.2.2.1 hP hD hS j 1 ((wld_at hj).trans rfl) rfl hm.1 hdg (fun H1 locs1 hP1 hD1 hS1 => ?_)
  have e : (wld (vG E) (vN E) S).set j (adr (vG E) 17 14, .inl ((vG E).2.2.1.2.1, 9, .inl (upd (S.2 17 13) i.toNatClampNeg (vp_nar .boolean x)))) = wld (vG E) (vN E) (stR S 17 13 (upd (S.2 17 13) i.toNatClampNeg (vp_nar .boolean x))) := by
    rw [← wld_set C.2.2.2.2.2.2.2.2.1 hj (fun p hp => ecell_stR p hp)]
    congr 1
  have hP1' := e ▸ hP1
  have hD1' := e ▸ hD1
  exact kk hm.2 H1 locs1 ls hP1' hD1' hS1 hlv
theorem cf_aald (C : CX E cc own nL enC fr lo) {i : Int32} {B : Prop} (hdg : decode cc pc = .ok (.aaload, 1)) (hm : vp_in i 4 ∧ B) (kk : B → CF E S (pc + 1) L (.ref (adr (vG E) (13 + i.toNatClampNeg) 0) :: st)) : CF E S pc L (.int i :: .ref (adr (vG E) 0 7) :: st) := by
  intro H locs ls hP hD hS hlv
  obtain ⟨j, hj⟩ := List.getElem?_of_mem (cx_en C (show (0, 7) ∈ enC by decide +kernel))
  exact va_aldq C.1 C.2.1 C.2.2.2.2.2.1 hP j 2 ((wld_at hj).trans rfl) rfl hm.1 hdg (kk hm.2 H locs ls hP hD hS hlv)
theorem vp_lt {i : Int32} {n : Nat} (h : vp_in i n) : i.toNatClampNeg < n := Nat.not_le.mp fun q => h (Or.inr q)
/-- CONTRACTS: a method's start over a store, its end over a store -/
def PRE (G : GX) (en : List (Nat × Nat)) (S : St) (sz : Nat) : State → Prop := fun U => U.heap.size = sz ∧ va_P G.1 vwCl (wld G en S) U.heap ∧ va_K G.1 vwCl (tysG G) U ∧ va_D (fun _ => True) (wld G en S) ∧ sts G (fA G en sz) U U.heap ∧ nst U
def CTi (l : Launch) (y : MethodName) (ws : List Cond) (rm : Room) (G : GX) (en : List (Nat × Nat)) (As : List Value) (S : St) (Q : Int32 → St → Prop) : Prop := ∀ sz : Nat, Met l y ws rm (va_Pc As (PRE G en S sz)) (va_Qi Q (fun u t => va_P G.1 vwCl (wld G en u) t.heap) (fA G en sz)) 0 0 (fA G en sz)
def CTv (l : Launch) (y : MethodName) (ws : List Cond) (rm : Room) (G : GX) (en : List (Nat × Nat)) (As : List Value) (S : St) (Q : St → Prop) : Prop := ∀ sz : Nat, Met l y ws rm (va_Pc As (PRE G en S sz)) (va_Qv Q (fun u t => va_P G.1 vwCl (wld G en u) t.heap) (fA G en sz)) 0 0 (fA G en sz)
def CTr (l : Launch) (y : MethodName) (ws : List Cond) (rm : Room) (G : GX) (en : List (Nat × Nat)) (As : List Value) (S : St) (Q : Nat → St → Prop) : Prop := ∀ sz : Nat, Met l y ws rm (va_Pc As (PRE G en S sz)) (va_Qr (S := Nat × St) (fun u => Q u.1 u.2) (fun u a t => a = adr G u.1 0 ∧ va_P G.1 vwCl (wld G en u.2) t.heap) (fA G en sz)) 0 0 (fA G en sz)
theorem pre_blind {G : GX} {en : List (Nat × Nat)} {S : St} {sz : Nat} {As : List Value} : FrameBlind (va_Pc As (PRE G en S sz)) := fun a U g mk q => ⟨q.1, q.2.1, q.2.2.1, va_K.moved (u := U) (U := U.calling g mk a) (Vm.Alike.refl U.vm) q.2.2.2.1, q.2.2.2.2.1, sts_to (u := U) (U := U.calling g mk a) (Vm.Alike.refl U.vm) (fun _ _ _ => rfl) (fun _ h => h) q.2.2.2.2.2.1, nst_same (U := U.calling g mk a) rfl q.2.2.2.2.2.2⟩
theorem fA_le {G : GX} {en : List (Nat × Nat)} {m n : Nat} (h : m ≤ n) : ∀ q, fA G en n q → fA G en m q := fun _ hq => hq.elim Or.inl (fun h2 => Or.inr (Nat.le_trans h h2))
theorem cx_A (C : CX E cc own nL en fr lo) {H : Heap} {locs : List Loc} (hS : va_S (vA E) (vS E).heap H locs) : ∀ q, fA (vG E) en H.size q → vA E q := fun q h => by
  rw [C.2.2.2.2.2.2.1, C.2.2.2.2.2.2.2.2.2.2.1]
  exact fA_le hS.1 q h
theorem cx_pre (C : CX E cc own nL en fr lo) {H : Heap} {locs : List Loc} (hP : va_P (vG E).1 vwCl (wld (vG E) (vN E) S) H) (hD : va_D (vA E) (wld (vG E) (vN E) S)) (hS : va_S (vA E) (vS E).heap H locs) (U : State) (hU : U.heap = H) (hW : (vS E).WarmedH U.vm) : PRE (vG E) en S H.size U := by
  have hN := C.2.2.2.2.2.2.2.2.2.2.1
  refine ⟨by rw [hU], by rw [hU, ← hN]; exact hP, va_K.moved hW.alike C.2.2.2.2.2.1, by rw [← hN]; exact hD.weaken (fun _ _ _ _ => trivial), ?_, nst_warm hW C.2.2.2.2.2.2.2.2.2.2.2.2.2⟩
  rw [hU]
  exact sts_to hW.alike hS.2.1 (cx_A C hS) C.2.2.2.2.2.2.2.1
theorem gd_code {y : MethodName} {bytes : ByteArray} {maxL : Nat} {ret : Option FieldType} (h : Cond.code y bytes maxL ret ∈ AW) : GoodIn AW (Cond.code y bytes maxL ret :: AW) := fun w hw => (List.mem_cons.mp hw).elim (fun e => by rw [e]; exact ⟨h, good_of_word (aw_good h)⟩) (fun h2 => ⟨h2, good_of_word (aw_good h2)⟩)
/-- what a method's name must be for a call of n arguments -/
def MD (y : MethodName) (n : Nat) : Prop := y.cls ≠ "java/lang/invoke/MethodHandle" ∧ y.cls ≠ "java/lang/invoke/VarHandle" ∧ (parseMethodDescriptor y.desc).map (fun d => d.parameters.length) = some n
theorem cx_callB (C : CX E cc own nL en fr lo) {y : MethodName} {bytes : ByteArray} {maxL n f2 l2 : Nat} {ret : Option FieldType} (hl : Cond.methodLink own index y ∈ AW) (hc : Cond.code y bytes maxL ret ∈ AW) (hi : Cond.initialized y.cls ∈ AW) (hd : MD y n) (hf : f2 + 1 ≤ fr) (ho : 8 + (maxL + 11) + l2 ≤ lo) : CallB (vR E) (vS E) (vAr E) own index y bytes maxL ret (Cond.code y bytes maxL ret :: AW) { frames := f2, cells := 0, slots := 0, locals := l2 } 0 0 n :=
  callB_of n C.2.2.2.2.1 (gd_code hc) rfl rfl rfl (C.2.2.2.2.1 _ hi) (C.2.2.2.2.1 _ hl) hd ⟨Nat.le_trans hf C.2.2.2.2.2.2.2.2.2.2.2.1, Nat.le_trans ho C.2.2.2.2.2.2.2.2.2.2.2.2.1⟩
theorem cx_recv (C : CX E cc own nL en fr lo) {H : Heap} {o k : Nat} {Cn : String} {fs : List Value} (ho : (o, 0) ∈ en) (he : ocell (vG E) o (S.1 o) = .inr (k, fs)) (hk : (vwCl[k]?).map (fun q => q.1) = some Cn) (hP : va_P (vG E).1 vwCl (wld (vG E) (vN E) S) H) : ∃ cell : Cell, H[adr (vG E) o 0]? = some cell ∧ cell.vm.isStatics = false ∧ (vS E).vm.findClass Cn = some cell.cls := by
  obtain ⟨i, hi⟩ := List.getElem?_of_mem (cx_en C ho)
  obtain ⟨q, hq, rfl⟩ := Option.map_eq_some_iff.mp hk
  refine va_recv C.2.2.2.2.2.1 hP (ci := k) (q0 := i) (fs := fs) hq ((wld_at hi).trans (congrArg some (Prod.ext rfl (?_ : ecell (vG E) S (o, 0) = .inr (k, fs)))))
  unfold ecell
  rw [if_pos rfl, he]
theorem cf_callVi (C : CX E cc own nL en fr lo) {y : MethodName} {bytes : ByteArray} {maxL n f2 l2 : Nat} {ret : Option FieldType} {Q : Int32 → St → Prop} {stk : List Value} (As : List Value) (st : List Value) {o k : Nat} {Cn : String} {fs : List Value} (ho : (o, 0) ∈ en) (he : ocell (vG E) o (S.1 o) = .inr (k, fs)) (hk : (vwCl[k]?).map (fun q => q.1) = some Cn) (hI : Cond.instanceMethod y ∈ AW) (hsel : Cond.selects Cn y y ∈ AW) (hM : CTi (vL E) y (Cond.code y bytes maxL ret :: AW) { frames := f2, cells := 0, slots := 0, locals := l2 } (vG E) en (.ref (adr (vG E) o 0) :: As) S Q) (hl : Cond.methodLink own index y ∈ AW) (hc : Cond.code y bytes maxL ret ∈ AW) (hi : Cond.initialized y.cls ∈ AW) (hd : MD y n) (hf : f2 + 1 ≤ fr) (hlo : 8 + (maxL + 11) + l2 ≤ lo) (hn : As.length = n) (hs : stk = As.reverse ++ .ref (adr (vG E) o 0) :: st) (hst : (st.map fun v => v.category).sum ≤ 8) (hdg : decode cc pc = .ok (.invokevirtual index, 3)) (kk : ∀ (r : Int32) (u : St), Q r u → CF E u (pc + 3) L (.int r :: st)) : CF E S pc L stk := by
  intro H locs ls hP hD hS hlv
  subst hs
  exact va_calli (va_runV (As := As) (rest := st) ⟨C.1, C.2.1, C.2.2.1, C.2.2.2.1, C.2.2.2.2.1⟩ (hM H.size) ⟨cx_callB C hl hc hi hd hf hlo, C.2.2.2.2.1 _ hI, C.2.2.2.2.1 _ hsel⟩ ⟨pre_blind, cx_recv C ho he hk hP, fun U hU hW => ⟨rfl, cx_pre C hP hD hS U hU hW⟩⟩ rfl hn (hlv.1.trans rfl) rfl (lv_room hst) hdg ⟨Nat.zero_le _, Nat.zero_le _⟩) hS (fun q _ h => cx_A C hS q h) (cx_A C hS) (fun r u t H1 locs1 ht _ hq hB _ _ hS1 => kk r u hq H1 locs1 ls (by rw [← ht, C.2.2.2.2.2.2.2.2.2.2.1]; exact hB) (va_D_st hD) hS1 hlv)
theorem cf_callSi (C : CX E cc own nL en fr lo) {y : MethodName} {bytes : ByteArray} {maxL n f2 l2 : Nat} {ret : Option FieldType} {Q : Int32 → St → Prop} {stk : List Value} (As : List Value) (st : List Value) (hI : Cond.static y ∈ AW) (hM : CTi (vL E) y (Cond.code y bytes maxL ret :: AW) { frames := f2, cells := 0, slots := 0, locals := l2 } (vG E) en As S Q) (hl : Cond.methodLink own index y ∈ AW) (hc : Cond.code y bytes maxL ret ∈ AW) (hi : Cond.initialized y.cls ∈ AW) (hd : MD y n) (hf : f2 + 1 ≤ fr) (hlo : 8 + (maxL + 11) + l2 ≤ lo) (hn : As.length = n) (hs : stk = As.reverse ++ st) (hst : (st.map fun v => v.category).sum ≤ 8) (hdg : decode cc pc = .ok (.invokestatic index, 3)) (kk : ∀ (r : Int32) (u : St), Q r u → CF E u (pc + 3) L (.int r :: st)) : CF E S pc L stk := by
  intro H locs ls hP hD hS hlv
  subst hs
  exact va_calli (va_runS (As := As) (rest := st) ⟨C.1, C.2.1, C.2.2.1, C.2.2.2.1, C.2.2.2.2.1⟩ (hM H.size) ⟨cx_callB C hl hc hi hd hf hlo, C.2.2.2.2.1 _ hI⟩ ⟨pre_blind, fun U hU hW => ⟨rfl, cx_pre C hP hD hS U hU hW⟩⟩ rfl hn (hlv.1.trans rfl) rfl (lv_room hst) hdg ⟨Nat.zero_le _, Nat.zero_le _⟩) hS (fun q _ h => cx_A C hS q h) (cx_A C hS) (fun r u t H1 locs1 ht _ hq hB _ _ hS1 => kk r u hq H1 locs1 ls (by rw [← ht, C.2.2.2.2.2.2.2.2.2.2.1]; exact hB) (va_D_st hD) hS1 hlv)
theorem cf_callVv (C : CX E cc own nL en fr lo) {y : MethodName} {bytes : ByteArray} {maxL n f2 l2 : Nat} {ret : Option FieldType} {Q : St → Prop} {stk : List Value} (As : List Value) (st : List Value) {o k : Nat} {Cn : String} {fs : List Value} (ho : (o, 0) ∈ en) (he : ocell (vG E) o (S.1 o) = .inr (k, fs)) (hk : (vwCl[k]?).map (fun q => q.1) = some Cn) (hI : Cond.instanceMethod y ∈ AW) (hsel : Cond.selects Cn y y ∈ AW) (hM : CTv (vL E) y (Cond.code y bytes maxL ret :: AW) { frames := f2, cells := 0, slots := 0, locals := l2 } (vG E) en (.ref (adr (vG E) o 0) :: As) S Q) (hl : Cond.methodLink own index y ∈ AW) (hc : Cond.code y bytes maxL ret ∈ AW) (hi : Cond.initialized y.cls ∈ AW) (hd : MD y n) (hf : f2 + 1 ≤ fr) (hlo : 8 + (maxL + 11) + l2 ≤ lo) (hn : As.length = n) (hs : stk = As.reverse ++ .ref (adr (vG E) o 0) :: st) (hst : (st.map fun v => v.category).sum ≤ 8) (hdg : decode cc pc = .ok (.invokevirtual index, 3)) (kk : ∀ (u : St), Q u → CF E u (pc + 3) L st) : CF E S pc L stk := by
  intro H locs ls hP hD hS hlv
  subst hs
  exact va_callv (va_runV (As := As) (rest := st) ⟨C.1, C.2.1, C.2.2.1, C.2.2.2.1, C.2.2.2.2.1⟩ (hM H.size) ⟨cx_callB C hl hc hi hd hf hlo, C.2.2.2.2.1 _ hI, C.2.2.2.2.1 _ hsel⟩ ⟨pre_blind, cx_recv C ho he hk hP, fun U hU hW => ⟨rfl, cx_pre C hP hD hS U hU hW⟩⟩ rfl hn (hlv.1.trans rfl) rfl (lv_room hst) hdg ⟨Nat.zero_le _, Nat.zero_le _⟩) hS (fun q _ h => cx_A C hS q h) (cx_A C hS) (fun u t H1 locs1 ht _ hq hB _ _ hS1 => kk u hq H1 locs1 ls (by rw [← ht, C.2.2.2.2.2.2.2.2.2.2.1]; exact hB) (va_D_st hD) hS1 hlv)
theorem cf_callSv (C : CX E cc own nL en fr lo) {y : MethodName} {bytes : ByteArray} {maxL n f2 l2 : Nat} {ret : Option FieldType} {Q : St → Prop} {stk : List Value} (As : List Value) (st : List Value) (hI : Cond.static y ∈ AW) (hM : CTv (vL E) y (Cond.code y bytes maxL ret :: AW) { frames := f2, cells := 0, slots := 0, locals := l2 } (vG E) en As S Q) (hl : Cond.methodLink own index y ∈ AW) (hc : Cond.code y bytes maxL ret ∈ AW) (hi : Cond.initialized y.cls ∈ AW) (hd : MD y n) (hf : f2 + 1 ≤ fr) (hlo : 8 + (maxL + 11) + l2 ≤ lo) (hn : As.length = n) (hs : stk = As.reverse ++ st) (hst : (st.map fun v => v.category).sum ≤ 8) (hdg : decode cc pc = .ok (.invokestatic index, 3)) (kk : ∀ (u : St), Q u → CF E u (pc + 3) L st) : CF E S pc L stk := by
  intro H locs ls hP hD hS hlv
  subst hs
  exact va_callv (va_runS (As := As) (rest := st) ⟨C.1, C.2.1, C.2.2.1, C.2.2.2.1, C.2.2.2.2.1⟩ (hM H.size) ⟨cx_callB C hl hc hi hd hf hlo, C.2.2.2.2.1 _ hI⟩ ⟨pre_blind, fun U hU hW => ⟨rfl, cx_pre C hP hD hS U hU hW⟩⟩ rfl hn (hlv.1.trans rfl) rfl (lv_room hst) hdg ⟨Nat.zero_le _, Nat.zero_le _⟩) hS (fun q _ h => cx_A C hS q h) (cx_A C hS) (fun u t H1 locs1 ht _ hq hB _ _ hS1 => kk u hq H1 locs1 ls (by rw [← ht, C.2.2.2.2.2.2.2.2.2.2.1]; exact hB) (va_D_st hD) hS1 hlv)
theorem cf_callVr (C : CX E cc own nL en fr lo) {y : MethodName} {bytes : ByteArray} {maxL n f2 l2 : Nat} {ret : Option FieldType} {Q : Nat → St → Prop} {stk : List Value} (As : List Value) (st : List Value) {o k : Nat} {Cn : String} {fs : List Value} (ho : (o, 0) ∈ en) (he : ocell (vG E) o (S.1 o) = .inr (k, fs)) (hk : (vwCl[k]?).map (fun q => q.1) = some Cn) (hI : Cond.instanceMethod y ∈ AW) (hsel : Cond.selects Cn y y ∈ AW) (hM : CTr (vL E) y (Cond.code y bytes maxL ret :: AW) { frames := f2, cells := 0, slots := 0, locals := l2 } (vG E) en (.ref (adr (vG E) o 0) :: As) S Q) (hl : Cond.methodLink own index y ∈ AW) (hc : Cond.code y bytes maxL ret ∈ AW) (hi : Cond.initialized y.cls ∈ AW) (hd : MD y n) (hf : f2 + 1 ≤ fr) (hlo : 8 + (maxL + 11) + l2 ≤ lo) (hn : As.length = n) (hs : stk = As.reverse ++ .ref (adr (vG E) o 0) :: st) (hst : (st.map fun v => v.category).sum ≤ 8) (hdg : decode cc pc = .ok (.invokevirtual index, 3)) (kk : ∀ (r : Nat) (u : St), Q r u → CF E u (pc + 3) L (.ref (adr (vG E) r 0) :: st)) : CF E S pc L stk := by
  intro H locs ls hP hD hS hlv
  subst hs
  exact va_callr (va_runV (As := As) (rest := st) ⟨C.1, C.2.1, C.2.2.1, C.2.2.2.1, C.2.2.2.2.1⟩ (hM H.size) ⟨cx_callB C hl hc hi hd hf hlo, C.2.2.2.2.1 _ hI, C.2.2.2.2.1 _ hsel⟩ ⟨pre_blind, cx_recv C ho he hk hP, fun U hU hW => ⟨rfl, cx_pre C hP hD hS U hU hW⟩⟩ rfl hn (hlv.1.trans rfl) rfl (lv_room hst) hdg ⟨Nat.zero_le _, Nat.zero_le _⟩) hS (fun q _ h => cx_A C hS q h) (cx_A C hS) (fun u a t H1 locs1 ht _ hq hB _ _ hS1 => by
    obtain ⟨rfl, hB⟩ := hB
    exact kk u.1 u.2 hq H1 locs1 ls (by rw [← ht, C.2.2.2.2.2.2.2.2.2.2.1]; exact hB) (va_D_st hD) hS1 hlv)
theorem cf_mmax (C : CX E cc own nL en fr lo) {x y : Int32} (hl : Cond.methodLink own index Lib.Math.max.name ∈ AW) (hI : Cond.static Lib.Math.max.name ∈ AW) (hi : Cond.initialized "java/lang/Math" ∈ AW) (hc : Cond.code Lib.Math.max.name Lib.Math.max.code 2 (some .int) ∈ AW) (hf : 1 ≤ fr) (hlo : 21 ≤ lo) (hst : (st.map fun v => v.category).sum ≤ 8) (hdg : decode cc pc = .ok (.invokestatic index, 3)) (kk : CF E S (pc + 3) L (.int (if x < y then y else x) :: st)) : CF E S pc L (.int y :: .int x :: st) := fun H locs ls hP hD hS hlv => va_mmax C.1 C.2.1 (C.2.2.1.trans hlv.1.symm) C.2.2.2.1 (C.2.2.2.2.1 _ hl) (C.2.2.2.2.1 _ hI) (C.2.2.2.2.1 _ hi) (C.2.2.2.2.1 _ hc) (Nat.le_trans hf C.2.2.2.2.2.2.2.2.2.2.2.1) (Nat.le_trans (Nat.le_trans (Nat.add_le_add_right hst 13) hlo) C.2.2.2.2.2.2.2.2.2.2.2.2.1) (Nat.zero_le _) (Nat.zero_le _) hdg (kk H locs ls hP hD hS hlv)
theorem cf_mmin (C : CX E cc own nL en fr lo) {x y : Int32} (hl : Cond.methodLink own index Lib.Math.min.name ∈ AW) (hI : Cond.static Lib.Math.min.name ∈ AW) (hi : Cond.initialized "java/lang/Math" ∈ AW) (hc : Cond.code Lib.Math.min.name Lib.Math.min.code 2 (some .int) ∈ AW) (hf : 1 ≤ fr) (hlo : 21 ≤ lo) (hst : (st.map fun v => v.category).sum ≤ 8) (hdg : decode cc pc = .ok (.invokestatic index, 3)) (kk : CF E S (pc + 3) L (.int (if y < x then y else x) :: st)) : CF E S pc L (.int y :: .int x :: st) := fun H locs ls hP hD hS hlv => va_mmin C.1 C.2.1 (C.2.2.1.trans hlv.1.symm) C.2.2.2.1 (C.2.2.2.2.1 _ hl) (C.2.2.2.2.1 _ hI) (C.2.2.2.2.1 _ hi) (C.2.2.2.2.1 _ hc) (Nat.le_trans hf C.2.2.2.2.2.2.2.2.2.2.2.1) (Nat.le_trans (Nat.le_trans (Nat.add_le_add_right hst 13) hlo) C.2.2.2.2.2.2.2.2.2.2.2.2.1) (Nat.zero_le _) (Nat.zero_le _) hdg (kk H locs ls hP hD hS hlv)
theorem cf_mabsl (C : CX E cc own nL en fr lo) {x : Int64} (hl : Cond.methodLink own index Lib.MathLoose.abs_long.x ∈ AW) (hI : Cond.static Lib.MathLoose.abs_long.x ∈ AW) (hi : Cond.initialized "java/lang/Math" ∈ AW) (hc : Cond.code Lib.MathLoose.abs_long.x Lib.MathLoose.abs_long.code 2 (some .long) ∈ AW) (hf : 1 ≤ fr) (hlo : 21 ≤ lo) (hst : (st.map fun v => v.category).sum ≤ 8) (hdg : decode cc pc = .ok (.invokestatic index, 3)) (kk : CF E S (pc + 3) L (.long (if 0 < x then x else -x) :: st)) : CF E S pc L (.long x :: st) := fun H locs ls hP hD hS hlv => va_mabs_long C.1 C.2.1 (C.2.2.1.trans hlv.1.symm) C.2.2.2.1 (C.2.2.2.2.1 _ hl) (C.2.2.2.2.1 _ hI) (C.2.2.2.2.1 _ hi) (C.2.2.2.2.1 _ hc) (Nat.le_trans hf C.2.2.2.2.2.2.2.2.2.2.2.1) (Nat.le_trans (Nat.le_trans (Nat.add_le_add_right hst 13) hlo) C.2.2.2.2.2.2.2.2.2.2.2.2.1) (Nat.zero_le _) (Nat.zero_le _) hdg (kk H locs ls hP hD hS hlv)
theorem ct_start_i {l : Launch} {y : MethodName} {cc : ByteArray} {maxL fr lo : Nat} {G : GX} {en : List (Nat × Nat)} {As : List Value} {S : St} {Q : Int32 → St → Prop} (hy : plainName y.cls = true) (hen : en.Nodup) (hsl : (lg_sl As).length ≤ maxL) (body : ∀ E : EV, vG E = G → vL E = l → CX E cc y.cls maxL en fr lo → RTi E cc Q → CF E S 0 (lv_args 0 As) []) : CTi l y (Cond.code y cc maxL (some .int) :: AW) { frames := fr, cells := 0, slots := 0, locals := lo } G en As S Q := by
  intro sz
  refine Met.ofW (cc := cc) (maxL := maxL) (ret := (some .int)) hy rfl ?_
  intro p e s m args below meth c s₁ B hml hv
  obtain ⟨rfl, hsz, hP, hK, hD0, hst, hnst⟩ := hv
  have hts := atoms_spec (ws := Cond.code y cc maxL (some .int) :: AW) B.pre
  have hown : s.vm.findClass y.cls = some m.cls := findClass_of_methodNamed B.named
  subst hsz
  have hD : va_D (fA G en s.heap.size) (wld G en S) := ⟨hD0.1, fun k q hk => by
    obtain ⟨x, h1, rfl⟩ := wld_of hk
    exact Or.inl ⟨x, List.mem_of_getElem? h1, rfl⟩⟩
  have hl := lv_entry As (n := maxL) hsl
  rw [lg_entry_eq]
  generalize (lg_sl As ++ List.replicate (maxL - (lg_sl As).length) Slot.unset).toArray = ls at hl ⊢
  have key := body (p, l, e, { frames := fr, cells := 0, slots := 0, locals := lo }, s, m, As.toArray, below, meth, c, fA G en s.heap.size, MQ below (va_Qi Q (fun u t => va_P G.1 vwCl (wld G en u) t.heap) (fA G en s.heap.size)) As.toArray s 0 0 (fA G en s.heap.size), G, en, maxL) rfl rfl ⟨B.exec, B.bytes, hml, hown, fun w h => hts w (List.mem_cons_of_mem _ h), hK, rfl, hst, hen, rfl, rfl, Nat.le_refl _, Nat.le_refl _, hnst⟩ (by
    intro S1 pc L1 v hd1 hq H1 locs1 ls1 hP1 hD1 hS1 hlv1
    exact W.iret (v := v) B.exec B.bytes B.returns (fun t ht hW => ⟨⟨v, S1, rfl, hq, by show va_P _ _ _ t.heap; rw [ht]; exact hP1⟩, hS1.F ht⟩) hS1.2.2 hd1 B.notSynchronized)
  exact key s.heap [] ls hP hD va_S.rf hl
theorem ct_start_z {l : Launch} {y : MethodName} {cc : ByteArray} {maxL fr lo : Nat} {G : GX} {en : List (Nat × Nat)} {As : List Value} {S : St} {Q : Int32 → St → Prop} (hy : plainName y.cls = true) (hen : en.Nodup) (hsl : (lg_sl As).length ≤ maxL) (body : ∀ E : EV, vG E = G → vL E = l → CX E cc y.cls maxL en fr lo → RTz E cc Q → CF E S 0 (lv_args 0 As) []) : CTi l y (Cond.code y cc maxL (some .boolean) :: AW) { frames := fr, cells := 0, slots := 0, locals := lo } G en As S Q := by
  intro sz
  refine Met.ofW (cc := cc) (maxL := maxL) (ret := (some .boolean)) hy rfl ?_
  intro p e s m args below meth c s₁ B hml hv
  obtain ⟨rfl, hsz, hP, hK, hD0, hst, hnst⟩ := hv
  have hts := atoms_spec (ws := Cond.code y cc maxL (some .boolean) :: AW) B.pre
  have hown : s.vm.findClass y.cls = some m.cls := findClass_of_methodNamed B.named
  subst hsz
  have hD : va_D (fA G en s.heap.size) (wld G en S) := ⟨hD0.1, fun k q hk => by
    obtain ⟨x, h1, rfl⟩ := wld_of hk
    exact Or.inl ⟨x, List.mem_of_getElem? h1, rfl⟩⟩
  have hl := lv_entry As (n := maxL) hsl
  rw [lg_entry_eq]
  generalize (lg_sl As ++ List.replicate (maxL - (lg_sl As).length) Slot.unset).toArray = ls at hl ⊢
  have key := body (p, l, e, { frames := fr, cells := 0, slots := 0, locals := lo }, s, m, As.toArray, below, meth, c, fA G en s.heap.size, MQ below (va_Qi Q (fun u t => va_P G.1 vwCl (wld G en u) t.heap) (fA G en s.heap.size)) As.toArray s 0 0 (fA G en s.heap.size), G, en, maxL) rfl rfl ⟨B.exec, B.bytes, hml, hown, fun w h => hts w (List.mem_cons_of_mem _ h), hK, rfl, hst, hen, rfl, rfl, Nat.le_refl _, Nat.le_refl _, hnst⟩ (by
    intro S1 pc L1 v hd1 hz hq H1 locs1 ls1 hP1 hD1 hS1 hlv1
    exact W.zret (v := v) (ty := .boolean) B.exec B.bytes B.returns (by rcases hz with rfl | rfl <;> rfl) (fun t ht hW => ⟨⟨v, S1, rfl, hq, by show va_P _ _ _ t.heap; rw [ht]; exact hP1⟩, hS1.F ht⟩) hS1.2.2 hd1 B.notSynchronized)
  exact key s.heap [] ls hP hD va_S.rf hl
theorem ct_start_v {l : Launch} {y : MethodName} {cc : ByteArray} {maxL fr lo : Nat} {G : GX} {en : List (Nat × Nat)} {As : List Value} {S : St} {Q : St → Prop} (hy : plainName y.cls = true) (hen : en.Nodup) (hsl : (lg_sl As).length ≤ maxL) (body : ∀ E : EV, vG E = G → vL E = l → CX E cc y.cls maxL en fr lo → RTv E cc Q → CF E S 0 (lv_args 0 As) []) : CTv l y (Cond.code y cc maxL none :: AW) { frames := fr, cells := 0, slots := 0, locals := lo } G en As S Q := by
  intro sz
  refine Met.ofW (cc := cc) (maxL := maxL) (ret := none) hy rfl ?_
  intro p e s m args below meth c s₁ B hml hv
  obtain ⟨rfl, hsz, hP, hK, hD0, hst, hnst⟩ := hv
  have hts := atoms_spec (ws := Cond.code y cc maxL none :: AW) B.pre
  have hown : s.vm.findClass y.cls = some m.cls := findClass_of_methodNamed B.named
  subst hsz
  have hD : va_D (fA G en s.heap.size) (wld G en S) := ⟨hD0.1, fun k q hk => by
    obtain ⟨x, h1, rfl⟩ := wld_of hk
    exact Or.inl ⟨x, List.mem_of_getElem? h1, rfl⟩⟩
  have hl := lv_entry As (n := maxL) hsl
  rw [lg_entry_eq]
  generalize (lg_sl As ++ List.replicate (maxL - (lg_sl As).length) Slot.unset).toArray = ls at hl ⊢
  have key := body (p, l, e, { frames := fr, cells := 0, slots := 0, locals := lo }, s, m, As.toArray, below, meth, c, fA G en s.heap.size, MQ below (va_Qv Q (fun u t => va_P G.1 vwCl (wld G en u) t.heap) (fA G en s.heap.size)) As.toArray s 0 0 (fA G en s.heap.size), G, en, maxL) rfl rfl ⟨B.exec, B.bytes, hml, hown, fun w h => hts w (List.mem_cons_of_mem _ h), hK, rfl, hst, hen, rfl, rfl, Nat.le_refl _, Nat.le_refl _, hnst⟩ (by
    intro S1 pc L1 hd1 hq H1 locs1 ls1 hP1 hD1 hS1 hlv1
    exact W.vret B.exec B.bytes B.returns (fun t ht hW => ⟨⟨S1, rfl, hq, by show va_P _ _ _ t.heap; rw [ht]; exact hP1⟩, hS1.F ht⟩) hS1.2.2 hd1 B.notSynchronized)
  exact key s.heap [] ls hP hD va_S.rf hl
theorem ct_start_r {nm : String} {l : Launch} {y : MethodName} {cc : ByteArray} {maxL fr lo : Nat} {G : GX} {en : List (Nat × Nat)} {As : List Value} {S : St} {Q : Nat → St → Prop} (hy : plainName y.cls = true) (hen : en.Nodup) (hsl : (lg_sl As).length ≤ maxL) (body : ∀ E : EV, vG E = G → vL E = l → CX E cc y.cls maxL en fr lo → RTr E cc Q → CF E S 0 (lv_args 0 As) []) : CTr l y (Cond.code y cc maxL (some (.object nm)) :: AW) { frames := fr, cells := 0, slots := 0, locals := lo } G en As S Q := by
  intro sz
  refine Met.ofW (cc := cc) (maxL := maxL) (ret := (some (.object nm))) hy rfl ?_
  intro p e s m args below meth c s₁ B hml hv
  obtain ⟨rfl, hsz, hP, hK, hD0, hst, hnst⟩ := hv
  have hts := atoms_spec (ws := Cond.code y cc maxL (some (.object nm)) :: AW) B.pre
  have hown : s.vm.findClass y.cls = some m.cls := findClass_of_methodNamed B.named
  subst hsz
  have hD : va_D (fA G en s.heap.size) (wld G en S) := ⟨hD0.1, fun k q hk => by
    obtain ⟨x, h1, rfl⟩ := wld_of hk
    exact Or.inl ⟨x, List.mem_of_getElem? h1, rfl⟩⟩
  have hl := lv_entry As (n := maxL) hsl
  rw [lg_entry_eq]
  generalize (lg_sl As ++ List.replicate (maxL - (lg_sl As).length) Slot.unset).toArray = ls at hl ⊢
  have key := body (p, l, e, { frames := fr, cells := 0, slots := 0, locals := lo }, s, m, As.toArray, below, meth, c, fA G en s.heap.size, MQ below (va_Qr (S := Nat × St) (fun u => Q u.1 u.2) (fun u a t => a = adr G u.1 0 ∧ va_P G.1 vwCl (wld G en u.2) t.heap) (fA G en s.heap.size)) As.toArray s 0 0 (fA G en s.heap.size), G, en, maxL) rfl rfl ⟨B.exec, B.bytes, hml, hown, fun w h => hts w (List.mem_cons_of_mem _ h), hK, rfl, hst, hen, rfl, rfl, Nat.le_refl _, Nat.le_refl _, hnst⟩ (by
    intro S1 pc L1 r hd1 hq H1 locs1 ls1 hP1 hD1 hS1 hlv1
    exact W.aret (v := .ref (adr G r 0)) B.exec B.bytes B.returns (Or.inl ⟨nm, rfl⟩) (Or.inr ⟨_, rfl⟩) (fun t ht hW => ⟨⟨(r, S1), adr G r 0, rfl, hq, rfl, by show va_P _ _ _ t.heap; rw [ht]; exact hP1⟩, hS1.F ht⟩) hS1.2.2 hd1 B.notSynchronized)
  exact key s.heap [] ls hP hD va_S.rf hl
theorem gf_0_0 (C : CX E cc own nL en fr lo) (hin : ∀ w ∈ wsX00, w ∈ AW) {o : Nat} (ho : okO en o 0) (hl : Cond.fieldLink own index "LeftoverRule$House" "claim" "LLeftoverRule$Law;" ∈ AW) (hdg : decode cc pc = .ok (.getfield index, 3)) (kk : CF E S (pc + 3) L (.ref (adr (vG E) (rf o 0) 0) :: st)) : CF E S pc L (.ref (adr (vG E) o 0) :: st) := cf_get C (ci := 0) (T := TX0) (N := 8) rfl hin ho.1 (ocell_0 ho.2.1) 0 (by decide) hl rfl hdg rfl kk
theorem gf_0_1 (C : CX E cc own nL en fr lo) (hin : ∀ w ∈ wsX00, w ∈ AW) {o : Nat} (ho : okO en o 0) (hl : Cond.fieldLink own index "LeftoverRule$House" "keeping" "LLeftoverRule$Law;" ∈ AW) (hdg : decode cc pc = .ok (.getfield index, 3)) (kk : CF E S (pc + 3) L (.ref (adr (vG E) (rf o 1) 0) :: st)) : CF E S pc L (.ref (adr (vG E) o 0) :: st) := cf_get C (ci := 0) (T := TX0) (N := 8) rfl hin ho.1 (ocell_0 ho.2.1) 1 (by decide) hl rfl hdg rfl kk
theorem gf_0_2 (C : CX E cc own nL en fr lo) (hin : ∀ w ∈ wsX00, w ∈ AW) {o : Nat} (ho : okO en o 0) (hl : Cond.fieldLink own index "LeftoverRule$House" "table" "LLeftoverRule$Table;" ∈ AW) (hdg : decode cc pc = .ok (.getfield index, 3)) (kk : CF E S (pc + 3) L (.ref (adr (vG E) (rf o 2) 0) :: st)) : CF E S pc L (.ref (adr (vG E) o 0) :: st) := cf_get C (ci := 0) (T := TX0) (N := 8) rfl hin ho.1 (ocell_0 ho.2.1) 2 (by decide) hl rfl hdg rfl kk
theorem gf_0_3 (C : CX E cc own nL en fr lo) (hin : ∀ w ∈ wsX00, w ∈ AW) {o : Nat} (ho : okO en o 0) (hl : Cond.fieldLink own index "LeftoverRule$House" "tape" "[I" ∈ AW) (hdg : decode cc pc = .ok (.getfield index, 3)) (kk : CF E S (pc + 3) L (.ref (adr (vG E) o 4) :: st)) : CF E S pc L (.ref (adr (vG E) o 0) :: st) := cf_get C (ci := 0) (T := TX0) (N := 8) rfl hin ho.1 (ocell_0 ho.2.1) 3 (by decide) hl rfl hdg rfl kk
theorem gf_0_4 (C : CX E cc own nL en fr lo) (hin : ∀ w ∈ wsX00, w ∈ AW) {o : Nat} (ho : okO en o 0) (hl : Cond.fieldLink own index "LeftoverRule$House" "taped" "I" ∈ AW) (hdg : decode cc pc = .ok (.getfield index, 3)) (kk : CF E S (pc + 3) L (.int (S.1 o 4) :: st)) : CF E S pc L (.ref (adr (vG E) o 0) :: st) := cf_get C (ci := 0) (T := TX0) (N := 8) rfl hin ho.1 (ocell_0 ho.2.1) 4 (by decide) hl rfl hdg rfl kk
theorem pf_0_4 (C : CX E cc own nL en fr lo) (hin : ∀ w ∈ wsX00, w ∈ AW) {o : Nat} {x : Int32} (ho : okO en o 0) (hl : Cond.fieldLink own index "LeftoverRule$House" "taped" "I" ∈ AW) (hdg : decode cc pc = .ok (.putfield index, 3)) (kk : CF E (stI S o 4 x) (pc + 3) L st) : CF E S pc L (.int x :: .ref (adr (vG E) o 0) :: st) := cf_put C (ci := 0) (T := TX0) (N := 8) rfl hin tyX0 tyX0_ok nmX0 ho.1 (ocell_0 ho.2.1) 4 (by decide) (ocell_0 ho.2.1) hl rfl rfl (ty := .int) (by decide +kernel) rfl rfl (by simp [oc0]) (by simp [oc0, stI]) hdg kk
theorem gf_0_5 (C : CX E cc own nL en fr lo) (hin : ∀ w ∈ wsX00, w ∈ AW) {o : Nat} (ho : okO en o 0) (hl : Cond.fieldLink own index "LeftoverRule$House" "waits" "[I" ∈ AW) (hdg : decode cc pc = .ok (.getfield index, 3)) (kk : CF E S (pc + 3) L (.ref (adr (vG E) o 6) :: st)) : CF E S pc L (.ref (adr (vG E) o 0) :: st) := cf_get C (ci := 0) (T := TX0) (N := 8) rfl hin ho.1 (ocell_0 ho.2.1) 5 (by decide) hl rfl hdg rfl kk
theorem gf_0_6 (C : CX E cc own nL en fr lo) (hin : ∀ w ∈ wsX00, w ∈ AW) {o : Nat} (ho : okO en o 0) (hl : Cond.fieldLink own index "LeftoverRule$House" "waiting" "I" ∈ AW) (hdg : decode cc pc = .ok (.getfield index, 3)) (kk : CF E S (pc + 3) L (.int (S.1 o 6) :: st)) : CF E S pc L (.ref (adr (vG E) o 0) :: st) := cf_get C (ci := 0) (T := TX0) (N := 8) rfl hin ho.1 (ocell_0 ho.2.1) 6 (by decide) hl rfl hdg rfl kk
theorem pf_0_6 (C : CX E cc own nL en fr lo) (hin : ∀ w ∈ wsX00, w ∈ AW) {o : Nat} {x : Int32} (ho : okO en o 0) (hl : Cond.fieldLink own index "LeftoverRule$House" "waiting" "I" ∈ AW) (hdg : decode cc pc = .ok (.putfield index, 3)) (kk : CF E (stI S o 6 x) (pc + 3) L st) : CF E S pc L (.int x :: .ref (adr (vG E) o 0) :: st) := cf_put C (ci := 0) (T := TX0) (N := 8) rfl hin tyX0 tyX0_ok nmX0 ho.1 (ocell_0 ho.2.1) 6 (by decide) (ocell_0 ho.2.1) hl rfl rfl (ty := .int) (by decide +kernel) rfl rfl (by simp [oc0]) (by simp [oc0, stI]) hdg kk
theorem gf_0_7 (C : CX E cc own nL en fr lo) (hin : ∀ w ∈ wsX00, w ∈ AW) {o : Nat} (ho : okO en o 0) (hl : Cond.fieldLink own index "LeftoverRule$House" "z" "I" ∈ AW) (hdg : decode cc pc = .ok (.getfield index, 3)) (kk : CF E S (pc + 3) L (.int (S.1 o 7) :: st)) : CF E S pc L (.ref (adr (vG E) o 0) :: st) := cf_get C (ci := 0) (T := TX0) (N := 8) rfl hin ho.1 (ocell_0 ho.2.1) 7 (by decide) hl rfl hdg rfl kk
theorem pf_0_7 (C : CX E cc own nL en fr lo) (hin : ∀ w ∈ wsX00, w ∈ AW) {o : Nat} {x : Int32} (ho : okO en o 0) (hl : Cond.fieldLink own index "LeftoverRule$House" "z" "I" ∈ AW) (hdg : decode cc pc = .ok (.putfield index, 3)) (kk : CF E (stI S o 7 x) (pc + 3) L st) : CF E S pc L (.int x :: .ref (adr (vG E) o 0) :: st) := cf_put C (ci := 0) (T := TX0) (N := 8) rfl hin tyX0 tyX0_ok nmX0 ho.1 (ocell_0 ho.2.1) 7 (by decide) (ocell_0 ho.2.1) hl rfl rfl (ty := .int) (by decide +kernel) rfl rfl (by simp [oc0]) (by simp [oc0, stI]) hdg kk
theorem gf_1_0 (C : CX E cc own nL en fr lo) (hin : ∀ w ∈ wsX10, w ∈ AW) {o : Nat} (ho : okO en o 1) (hl : Cond.fieldLink own index "LeftoverRule$Law" "most" "I" ∈ AW) (hdg : decode cc pc = .ok (.getfield index, 3)) (kk : CF E S (pc + 3) L (.int (S.1 o 0) :: st)) : CF E S pc L (.ref (adr (vG E) o 0) :: st) := cf_get C (ci := 1) (T := TX1) (N := 5) rfl hin ho.1 (ocell_1 ho.2.1) 0 (by decide) hl rfl hdg rfl kk
theorem gf_1_1 (C : CX E cc own nL en fr lo) (hin : ∀ w ∈ wsX10, w ∈ AW) {o : Nat} (ho : okO en o 1) (hl : Cond.fieldLink own index "LeftoverRule$Law" "ofFlavours" "Z" ∈ AW) (hdg : decode cc pc = .ok (.getfield index, 3)) (kk : CF E S (pc + 3) L (.int (S.1 o 1) :: st)) : CF E S pc L (.ref (adr (vG E) o 0) :: st) := cf_get C (ci := 1) (T := TX1) (N := 5) rfl hin ho.1 (ocell_1 ho.2.1) 1 (by decide) hl rfl hdg rfl kk
theorem gf_1_2 (C : CX E cc own nL en fr lo) (hin : ∀ w ∈ wsX10, w ∈ AW) {o : Nat} (ho : okO en o 1) (hl : Cond.fieldLink own index "LeftoverRule$Law" "steps" "[I" ∈ AW) (hdg : decode cc pc = .ok (.getfield index, 3)) (kk : CF E S (pc + 3) L (.ref (adr (vG E) o 3) :: st)) : CF E S pc L (.ref (adr (vG E) o 0) :: st) := cf_get C (ci := 1) (T := TX1) (N := 5) rfl hin ho.1 (ocell_1 ho.2.1) 2 (by decide) hl rfl hdg rfl kk
theorem gf_1_3 (C : CX E cc own nL en fr lo) (hin : ∀ w ∈ wsX10, w ∈ AW) {o : Nat} (ho : okO en o 1) (hl : Cond.fieldLink own index "LeftoverRule$Law" "stack" "[I" ∈ AW) (hdg : decode cc pc = .ok (.getfield index, 3)) (kk : CF E S (pc + 3) L (.ref (adr (vG E) o 4) :: st)) : CF E S pc L (.ref (adr (vG E) o 0) :: st) := cf_get C (ci := 1) (T := TX1) (N := 5) rfl hin ho.1 (ocell_1 ho.2.1) 3 (by decide) hl rfl hdg rfl kk
theorem gf_1_4 (C : CX E cc own nL en fr lo) (hin : ∀ w ∈ wsX10, w ∈ AW) {o : Nat} (ho : okO en o 1) (hl : Cond.fieldLink own index "LeftoverRule$Law" "length" "I" ∈ AW) (hdg : decode cc pc = .ok (.getfield index, 3)) (kk : CF E S (pc + 3) L (.int (S.1 o 4) :: st)) : CF E S pc L (.ref (adr (vG E) o 0) :: st) := cf_get C (ci := 1) (T := TX1) (N := 5) rfl hin ho.1 (ocell_1 ho.2.1) 4 (by decide) hl rfl hdg rfl kk
theorem pf_1_4 (C : CX E cc own nL en fr lo) (hin : ∀ w ∈ wsX10, w ∈ AW) {o : Nat} {x : Int32} (ho : okO en o 1) (hl : Cond.fieldLink own index "LeftoverRule$Law" "length" "I" ∈ AW) (hdg : decode cc pc = .ok (.putfield index, 3)) (kk : CF E (stI S o 4 x) (pc + 3) L st) : CF E S pc L (.int x :: .ref (adr (vG E) o 0) :: st) := cf_put C (ci := 1) (T := TX1) (N := 5) rfl hin tyX1 tyX1_ok nmX1 ho.1 (ocell_1 ho.2.1) 4 (by decide) (ocell_1 ho.2.1) hl rfl rfl (ty := .int) (by decide +kernel) rfl rfl (by simp [oc1]) (by simp [oc1, stI]) hdg kk
theorem gf_2_0 (C : CX E cc own nL en fr lo) (hin : ∀ w ∈ wsX20, w ∈ AW) (ho : okO en 11 2) (hl : Cond.fieldLink own index "LeftoverRule$Reader" "draft" "LLeftoverRule$Law;" ∈ AW) (hdg : decode cc pc = .ok (.getfield index, 3)) (kk : CF E S (pc + 3) L (.ref (adr (vG E) 10 0) :: st)) : CF E S pc L (.ref (adr (vG E) 11 0) :: st) := cf_get C (ci := 2) (T := TX2) (N := 6) rfl hin ho.1 (ocell_2 ho.2.1) 0 (by decide) hl rfl hdg rfl kk
theorem gf_2_1 (C : CX E cc own nL en fr lo) (hin : ∀ w ∈ wsX20, w ∈ AW) (ho : okO en 11 2) (hl : Cond.fieldLink own index "LeftoverRule$Reader" "bytes" "[I" ∈ AW) (hdg : decode cc pc = .ok (.getfield index, 3)) (kk : CF E S (pc + 3) L (.ref (adr (vG E) 11 2) :: st)) : CF E S pc L (.ref (adr (vG E) 11 0) :: st) := cf_get C (ci := 2) (T := TX2) (N := 6) rfl hin ho.1 (ocell_2 ho.2.1) 1 (by decide) hl rfl hdg rfl kk
theorem gf_2_2 (C : CX E cc own nL en fr lo) (hin : ∀ w ∈ wsX20, w ∈ AW) (ho : okO en 11 2) (hl : Cond.fieldLink own index "LeftoverRule$Reader" "length" "I" ∈ AW) (hdg : decode cc pc = .ok (.getfield index, 3)) (kk : CF E S (pc + 3) L (.int (S.1 11 2) :: st)) : CF E S pc L (.ref (adr (vG E) 11 0) :: st) := cf_get C (ci := 2) (T := TX2) (N := 6) rfl hin ho.1 (ocell_2 ho.2.1) 2 (by decide) hl rfl hdg rfl kk
theorem pf_2_2 (C : CX E cc own nL en fr lo) (hin : ∀ w ∈ wsX20, w ∈ AW) {x : Int32} (ho : okO en 11 2) (hl : Cond.fieldLink own index "LeftoverRule$Reader" "length" "I" ∈ AW) (hdg : decode cc pc = .ok (.putfield index, 3)) (kk : CF E (stI S 11 2 x) (pc + 3) L st) : CF E S pc L (.int x :: .ref (adr (vG E) 11 0) :: st) := cf_put C (ci := 2) (T := TX2) (N := 6) rfl hin tyX2 tyX2_ok nmX2 ho.1 (ocell_2 ho.2.1) 2 (by decide) (ocell_2 ho.2.1) hl rfl rfl (ty := .int) (by decide +kernel) rfl rfl (by simp [oc2]) (by simp [oc2, stI]) hdg kk
theorem gf_2_3 (C : CX E cc own nL en fr lo) (hin : ∀ w ∈ wsX20, w ∈ AW) (ho : okO en 11 2) (hl : Cond.fieldLink own index "LeftoverRule$Reader" "place" "I" ∈ AW) (hdg : decode cc pc = .ok (.getfield index, 3)) (kk : CF E S (pc + 3) L (.int (S.1 11 3) :: st)) : CF E S pc L (.ref (adr (vG E) 11 0) :: st) := cf_get C (ci := 2) (T := TX2) (N := 6) rfl hin ho.1 (ocell_2 ho.2.1) 3 (by decide) hl rfl hdg rfl kk
theorem pf_2_3 (C : CX E cc own nL en fr lo) (hin : ∀ w ∈ wsX20, w ∈ AW) {x : Int32} (ho : okO en 11 2) (hl : Cond.fieldLink own index "LeftoverRule$Reader" "place" "I" ∈ AW) (hdg : decode cc pc = .ok (.putfield index, 3)) (kk : CF E (stI S 11 3 x) (pc + 3) L st) : CF E S pc L (.int x :: .ref (adr (vG E) 11 0) :: st) := cf_put C (ci := 2) (T := TX2) (N := 6) rfl hin tyX2 tyX2_ok nmX2 ho.1 (ocell_2 ho.2.1) 3 (by decide) (ocell_2 ho.2.1) hl rfl rfl (ty := .int) (by decide +kernel) rfl rfl (by simp [oc2]) (by simp [oc2, stI]) hdg kk
theorem gf_2_4 (C : CX E cc own nL en fr lo) (hin : ∀ w ∈ wsX20, w ∈ AW) (ho : okO en 11 2) (hl : Cond.fieldLink own index "LeftoverRule$Reader" "use" "I" ∈ AW) (hdg : decode cc pc = .ok (.getfield index, 3)) (kk : CF E S (pc + 3) L (.int (S.1 11 4) :: st)) : CF E S pc L (.ref (adr (vG E) 11 0) :: st) := cf_get C (ci := 2) (T := TX2) (N := 6) rfl hin ho.1 (ocell_2 ho.2.1) 4 (by decide) hl rfl hdg rfl kk
theorem pf_2_4 (C : CX E cc own nL en fr lo) (hin : ∀ w ∈ wsX20, w ∈ AW) {x : Int32} (ho : okO en 11 2) (hl : Cond.fieldLink own index "LeftoverRule$Reader" "use" "I" ∈ AW) (hdg : decode cc pc = .ok (.putfield index, 3)) (kk : CF E (stI S 11 4 x) (pc + 3) L st) : CF E S pc L (.int x :: .ref (adr (vG E) 11 0) :: st) := cf_put C (ci := 2) (T := TX2) (N := 6) rfl hin tyX2 tyX2_ok nmX2 ho.1 (ocell_2 ho.2.1) 4 (by decide) (ocell_2 ho.2.1) hl rfl rfl (ty := .int) (by decide +kernel) rfl rfl (by simp [oc2]) (by simp [oc2, stI]) hdg kk
theorem gf_2_5 (C : CX E cc own nL en fr lo) (hin : ∀ w ∈ wsX20, w ∈ AW) (ho : okO en 11 2) (hl : Cond.fieldLink own index "LeftoverRule$Reader" "faulty" "Z" ∈ AW) (hdg : decode cc pc = .ok (.getfield index, 3)) (kk : CF E S (pc + 3) L (.int (S.1 11 5) :: st)) : CF E S pc L (.ref (adr (vG E) 11 0) :: st) := cf_get C (ci := 2) (T := TX2) (N := 6) rfl hin ho.1 (ocell_2 ho.2.1) 5 (by decide) hl rfl hdg rfl kk
theorem pf_2_5 (C : CX E cc own nL en fr lo) (hin : ∀ w ∈ wsX20, w ∈ AW) {x : Int32} (hz : x = 0 ∨ x = 1) (ho : okO en 11 2) (hl : Cond.fieldLink own index "LeftoverRule$Reader" "faulty" "Z" ∈ AW) (hdg : decode cc pc = .ok (.putfield index, 3)) (kk : CF E (stI S 11 5 x) (pc + 3) L st) : CF E S pc L (.int x :: .ref (adr (vG E) 11 0) :: st) := cf_put C (ci := 2) (T := TX2) (N := 6) rfl hin tyX2 tyX2_ok nmX2 ho.1 (ocell_2 ho.2.1) 5 (by decide) (ocell_2 ho.2.1) hl rfl rfl (ty := .boolean) (by decide +kernel) (by rcases hz with rfl | rfl <;> rfl) (by rcases hz with rfl | rfl <;> rfl) (by simp [oc2]) (by simp [oc2, stI]) hdg kk
theorem gf_3_0 (C : CX E cc own nL en fr lo) (hin : ∀ w ∈ wsX30, w ∈ AW) {o : Nat} (ho : okO en o 3) (hl : Cond.fieldLink own index "LeftoverRule$Sheet" "bits" "I" ∈ AW) (hdg : decode cc pc = .ok (.getfield index, 3)) (kk : CF E S (pc + 3) L (.int (S.1 o 0) :: st)) : CF E S pc L (.ref (adr (vG E) o 0) :: st) := cf_get C (ci := 3) (T := TX3) (N := 3) rfl hin ho.1 (ocell_3 ho.2.1) 0 (by decide) hl rfl hdg rfl kk
theorem pf_3_0 (C : CX E cc own nL en fr lo) (hin : ∀ w ∈ wsX30, w ∈ AW) {o : Nat} {x : Int32} (ho : okO en o 3) (hl : Cond.fieldLink own index "LeftoverRule$Sheet" "bits" "I" ∈ AW) (hdg : decode cc pc = .ok (.putfield index, 3)) (kk : CF E (stI S o 0 x) (pc + 3) L st) : CF E S pc L (.int x :: .ref (adr (vG E) o 0) :: st) := cf_put C (ci := 3) (T := TX3) (N := 3) rfl hin tyX3 tyX3_ok nmX3 ho.1 (ocell_3 ho.2.1) 0 (by decide) (ocell_3 ho.2.1) hl rfl rfl (ty := .int) (by decide +kernel) rfl rfl (by simp [oc3]) (by simp [oc3, stI]) hdg kk
theorem gf_3_1 (C : CX E cc own nL en fr lo) (hin : ∀ w ∈ wsX30, w ∈ AW) {o : Nat} (ho : okO en o 3) (hl : Cond.fieldLink own index "LeftoverRule$Sheet" "length" "I" ∈ AW) (hdg : decode cc pc = .ok (.getfield index, 3)) (kk : CF E S (pc + 3) L (.int (S.1 o 1) :: st)) : CF E S pc L (.ref (adr (vG E) o 0) :: st) := cf_get C (ci := 3) (T := TX3) (N := 3) rfl hin ho.1 (ocell_3 ho.2.1) 1 (by decide) hl rfl hdg rfl kk
theorem pf_3_1 (C : CX E cc own nL en fr lo) (hin : ∀ w ∈ wsX30, w ∈ AW) {o : Nat} {x : Int32} (ho : okO en o 3) (hl : Cond.fieldLink own index "LeftoverRule$Sheet" "length" "I" ∈ AW) (hdg : decode cc pc = .ok (.putfield index, 3)) (kk : CF E (stI S o 1 x) (pc + 3) L st) : CF E S pc L (.int x :: .ref (adr (vG E) o 0) :: st) := cf_put C (ci := 3) (T := TX3) (N := 3) rfl hin tyX3 tyX3_ok nmX3 ho.1 (ocell_3 ho.2.1) 1 (by decide) (ocell_3 ho.2.1) hl rfl rfl (ty := .int) (by decide +kernel) rfl rfl (by simp [oc3]) (by simp [oc3, stI]) hdg kk
theorem gf_3_2 (C : CX E cc own nL en fr lo) (hin : ∀ w ∈ wsX30, w ∈ AW) {o : Nat} (ho : okO en o 3) (hl : Cond.fieldLink own index "LeftoverRule$Sheet" "numbers" "[I" ∈ AW) (hdg : decode cc pc = .ok (.getfield index, 3)) (kk : CF E S (pc + 3) L (.ref (adr (vG E) o 3) :: st)) : CF E S pc L (.ref (adr (vG E) o 0) :: st) := cf_get C (ci := 3) (T := TX3) (N := 3) rfl hin ho.1 (ocell_3 ho.2.1) 2 (by decide) hl rfl hdg rfl kk
theorem gf_4_0 (C : CX E cc own nL en fr lo) (hin : ∀ w ∈ wsX40, w ∈ AW) {o : Nat} (ho : okO en o 4) (hl : Cond.fieldLink own index "LeftoverRule$Table" "claim" "LLeftoverRule$Law;" ∈ AW) (hdg : decode cc pc = .ok (.getfield index, 3)) (kk : CF E S (pc + 3) L (.ref (adr (vG E) (rf o 0) 0) :: st)) : CF E S pc L (.ref (adr (vG E) o 0) :: st) := cf_get C (ci := 4) (T := TX4) (N := 11) rfl hin ho.1 (ocell_4 ho.2.1) 0 (by decide) hl rfl hdg rfl kk
theorem gf_4_1 (C : CX E cc own nL en fr lo) (hin : ∀ w ∈ wsX40, w ∈ AW) {o : Nat} (ho : okO en o 4) (hl : Cond.fieldLink own index "LeftoverRule$Table" "keeping" "LLeftoverRule$Law;" ∈ AW) (hdg : decode cc pc = .ok (.getfield index, 3)) (kk : CF E S (pc + 3) L (.ref (adr (vG E) (rf o 1) 0) :: st)) : CF E S pc L (.ref (adr (vG E) o 0) :: st) := cf_get C (ci := 4) (T := TX4) (N := 11) rfl hin ho.1 (ocell_4 ho.2.1) 1 (by decide) hl rfl hdg rfl kk
theorem gf_4_2 (C : CX E cc own nL en fr lo) (hin : ∀ w ∈ wsX40, w ∈ AW) {o : Nat} (ho : okO en o 4) (hl : Cond.fieldLink own index "LeftoverRule$Table" "dishes" "I" ∈ AW) (hdg : decode cc pc = .ok (.getfield index, 3)) (kk : CF E S (pc + 3) L (.int (S.1 o 2) :: st)) : CF E S pc L (.ref (adr (vG E) o 0) :: st) := cf_get C (ci := 4) (T := TX4) (N := 11) rfl hin ho.1 (ocell_4 ho.2.1) 2 (by decide) hl rfl hdg rfl kk
theorem pf_4_2 (C : CX E cc own nL en fr lo) (hin : ∀ w ∈ wsX40, w ∈ AW) {o : Nat} {x : Int32} (ho : okO en o 4) (hl : Cond.fieldLink own index "LeftoverRule$Table" "dishes" "I" ∈ AW) (hdg : decode cc pc = .ok (.putfield index, 3)) (kk : CF E (stI S o 2 x) (pc + 3) L st) : CF E S pc L (.int x :: .ref (adr (vG E) o 0) :: st) := cf_put C (ci := 4) (T := TX4) (N := 11) rfl hin tyX4 tyX4_ok nmX4 ho.1 (ocell_4 ho.2.1) 2 (by decide) (ocell_4 ho.2.1) hl rfl rfl (ty := .int) (by decide +kernel) rfl rfl (by simp [oc4]) (by simp [oc4, stI]) hdg kk
theorem gf_4_3 (C : CX E cc own nL en fr lo) (hin : ∀ w ∈ wsX40, w ∈ AW) {o : Nat} (ho : okO en o 4) (hl : Cond.fieldLink own index "LeftoverRule$Table" "day" "I" ∈ AW) (hdg : decode cc pc = .ok (.getfield index, 3)) (kk : CF E S (pc + 3) L (.int (S.1 o 3) :: st)) : CF E S pc L (.ref (adr (vG E) o 0) :: st) := cf_get C (ci := 4) (T := TX4) (N := 11) rfl hin ho.1 (ocell_4 ho.2.1) 3 (by decide) hl rfl hdg rfl kk
theorem pf_4_3 (C : CX E cc own nL en fr lo) (hin : ∀ w ∈ wsX40, w ∈ AW) {o : Nat} {x : Int32} (ho : okO en o 4) (hl : Cond.fieldLink own index "LeftoverRule$Table" "day" "I" ∈ AW) (hdg : decode cc pc = .ok (.putfield index, 3)) (kk : CF E (stI S o 3 x) (pc + 3) L st) : CF E S pc L (.int x :: .ref (adr (vG E) o 0) :: st) := cf_put C (ci := 4) (T := TX4) (N := 11) rfl hin tyX4 tyX4_ok nmX4 ho.1 (ocell_4 ho.2.1) 3 (by decide) (ocell_4 ho.2.1) hl rfl rfl (ty := .int) (by decide +kernel) rfl rfl (by simp [oc4]) (by simp [oc4, stI]) hdg kk
theorem gf_4_4 (C : CX E cc own nL en fr lo) (hin : ∀ w ∈ wsX40, w ∈ AW) {o : Nat} (ho : okO en o 4) (hl : Cond.fieldLink own index "LeftoverRule$Table" "hungry" "I" ∈ AW) (hdg : decode cc pc = .ok (.getfield index, 3)) (kk : CF E S (pc + 3) L (.int (S.1 o 4) :: st)) : CF E S pc L (.ref (adr (vG E) o 0) :: st) := cf_get C (ci := 4) (T := TX4) (N := 11) rfl hin ho.1 (ocell_4 ho.2.1) 4 (by decide) hl rfl hdg rfl kk
theorem pf_4_4 (C : CX E cc own nL en fr lo) (hin : ∀ w ∈ wsX40, w ∈ AW) {o : Nat} {x : Int32} (ho : okO en o 4) (hl : Cond.fieldLink own index "LeftoverRule$Table" "hungry" "I" ∈ AW) (hdg : decode cc pc = .ok (.putfield index, 3)) (kk : CF E (stI S o 4 x) (pc + 3) L st) : CF E S pc L (.int x :: .ref (adr (vG E) o 0) :: st) := cf_put C (ci := 4) (T := TX4) (N := 11) rfl hin tyX4 tyX4_ok nmX4 ho.1 (ocell_4 ho.2.1) 4 (by decide) (ocell_4 ho.2.1) hl rfl rfl (ty := .int) (by decide +kernel) rfl rfl (by simp [oc4]) (by simp [oc4, stI]) hdg kk
theorem gf_4_5 (C : CX E cc own nL en fr lo) (hin : ∀ w ∈ wsX40, w ∈ AW) {o : Nat} (ho : okO en o 4) (hl : Cond.fieldLink own index "LeftoverRule$Table" "kind" "[I" ∈ AW) (hdg : decode cc pc = .ok (.getfield index, 3)) (kk : CF E S (pc + 3) L (.ref (adr (vG E) o 6) :: st)) : CF E S pc L (.ref (adr (vG E) o 0) :: st) := cf_get C (ci := 4) (T := TX4) (N := 11) rfl hin ho.1 (ocell_4 ho.2.1) 5 (by decide) hl rfl hdg rfl kk
theorem gf_4_6 (C : CX E cc own nL en fr lo) (hin : ∀ w ∈ wsX40, w ∈ AW) {o : Nat} (ho : okO en o 4) (hl : Cond.fieldLink own index "LeftoverRule$Table" "mark" "[I" ∈ AW) (hdg : decode cc pc = .ok (.getfield index, 3)) (kk : CF E S (pc + 3) L (.ref (adr (vG E) o 7) :: st)) : CF E S pc L (.ref (adr (vG E) o 0) :: st) := cf_get C (ci := 4) (T := TX4) (N := 11) rfl hin ho.1 (ocell_4 ho.2.1) 6 (by decide) hl rfl hdg rfl kk
theorem gf_4_7 (C : CX E cc own nL en fr lo) (hin : ∀ w ∈ wsX40, w ∈ AW) {o : Nat} (ho : okO en o 4) (hl : Cond.fieldLink own index "LeftoverRule$Table" "size" "[I" ∈ AW) (hdg : decode cc pc = .ok (.getfield index, 3)) (kk : CF E S (pc + 3) L (.ref (adr (vG E) o 8) :: st)) : CF E S pc L (.ref (adr (vG E) o 0) :: st) := cf_get C (ci := 4) (T := TX4) (N := 11) rfl hin ho.1 (ocell_4 ho.2.1) 7 (by decide) hl rfl hdg rfl kk
theorem gf_4_8 (C : CX E cc own nL en fr lo) (hin : ∀ w ∈ wsX40, w ∈ AW) {o : Nat} (ho : okO en o 4) (hl : Cond.fieldLink own index "LeftoverRule$Table" "age" "[I" ∈ AW) (hdg : decode cc pc = .ok (.getfield index, 3)) (kk : CF E S (pc + 3) L (.ref (adr (vG E) o 9) :: st)) : CF E S pc L (.ref (adr (vG E) o 0) :: st) := cf_get C (ci := 4) (T := TX4) (N := 11) rfl hin ho.1 (ocell_4 ho.2.1) 8 (by decide) hl rfl hdg rfl kk
theorem gf_4_9 (C : CX E cc own nL en fr lo) (hin : ∀ w ∈ wsX40, w ∈ AW) {o : Nat} (ho : okO en o 4) (hl : Cond.fieldLink own index "LeftoverRule$Table" "flavour" "[I" ∈ AW) (hdg : decode cc pc = .ok (.getfield index, 3)) (kk : CF E S (pc + 3) L (.ref (adr (vG E) o 10) :: st)) : CF E S pc L (.ref (adr (vG E) o 0) :: st) := cf_get C (ci := 4) (T := TX4) (N := 11) rfl hin ho.1 (ocell_4 ho.2.1) 9 (by decide) hl rfl hdg rfl kk
theorem gf_4_10 (C : CX E cc own nL en fr lo) (hin : ∀ w ∈ wsX40, w ∈ AW) {o : Nat} (ho : okO en o 4) (hl : Cond.fieldLink own index "LeftoverRule$Table" "claims" "[I" ∈ AW) (hdg : decode cc pc = .ok (.getfield index, 3)) (kk : CF E S (pc + 3) L (.ref (adr (vG E) o 11) :: st)) : CF E S pc L (.ref (adr (vG E) o 0) :: st) := cf_get C (ci := 4) (T := TX4) (N := 11) rfl hin ho.1 (ocell_4 ho.2.1) 10 (by decide) hl rfl hdg rfl kk
theorem gf_5_0 (C : CX E cc own nL en fr lo) (hin : ∀ w ∈ wsX50, w ∈ AW) (ho : okO en 12 5) (hl : Cond.fieldLink own index "LeftoverRule$Voices" "trace" "[I" ∈ AW) (hdg : decode cc pc = .ok (.getfield index, 3)) (kk : CF E S (pc + 3) L (.ref (adr (vG E) 12 1) :: st)) : CF E S pc L (.ref (adr (vG E) 12 0) :: st) := cf_get C (ci := 5) (T := TX5) (N := 6) rfl hin ho.1 (ocell_5 ho.2.1) 0 (by decide) hl rfl hdg rfl kk
theorem gf_5_1 (C : CX E cc own nL en fr lo) (hin : ∀ w ∈ wsX50, w ∈ AW) (ho : okO en 12 5) (hl : Cond.fieldLink own index "LeftoverRule$Voices" "traced" "I" ∈ AW) (hdg : decode cc pc = .ok (.getfield index, 3)) (kk : CF E S (pc + 3) L (.int (S.1 12 1) :: st)) : CF E S pc L (.ref (adr (vG E) 12 0) :: st) := cf_get C (ci := 5) (T := TX5) (N := 6) rfl hin ho.1 (ocell_5 ho.2.1) 1 (by decide) hl rfl hdg rfl kk
theorem pf_5_1 (C : CX E cc own nL en fr lo) (hin : ∀ w ∈ wsX50, w ∈ AW) {x : Int32} (ho : okO en 12 5) (hl : Cond.fieldLink own index "LeftoverRule$Voices" "traced" "I" ∈ AW) (hdg : decode cc pc = .ok (.putfield index, 3)) (kk : CF E (stI S 12 1 x) (pc + 3) L st) : CF E S pc L (.int x :: .ref (adr (vG E) 12 0) :: st) := cf_put C (ci := 5) (T := TX5) (N := 6) rfl hin tyX5 tyX5_ok nmX5 ho.1 (ocell_5 ho.2.1) 1 (by decide) (ocell_5 ho.2.1) hl rfl rfl (ty := .int) (by decide +kernel) rfl rfl (by simp [oc5]) (by simp [oc5, stI]) hdg kk
theorem gf_5_2 (C : CX E cc own nL en fr lo) (hin : ∀ w ∈ wsX50, w ∈ AW) (ho : okO en 12 5) (hl : Cond.fieldLink own index "LeftoverRule$Voices" "parted" "Z" ∈ AW) (hdg : decode cc pc = .ok (.getfield index, 3)) (kk : CF E S (pc + 3) L (.int (S.1 12 2) :: st)) : CF E S pc L (.ref (adr (vG E) 12 0) :: st) := cf_get C (ci := 5) (T := TX5) (N := 6) rfl hin ho.1 (ocell_5 ho.2.1) 2 (by decide) hl rfl hdg rfl kk
theorem pf_5_2 (C : CX E cc own nL en fr lo) (hin : ∀ w ∈ wsX50, w ∈ AW) {x : Int32} (hz : x = 0 ∨ x = 1) (ho : okO en 12 5) (hl : Cond.fieldLink own index "LeftoverRule$Voices" "parted" "Z" ∈ AW) (hdg : decode cc pc = .ok (.putfield index, 3)) (kk : CF E (stI S 12 2 x) (pc + 3) L st) : CF E S pc L (.int x :: .ref (adr (vG E) 12 0) :: st) := cf_put C (ci := 5) (T := TX5) (N := 6) rfl hin tyX5 tyX5_ok nmX5 ho.1 (ocell_5 ho.2.1) 2 (by decide) (ocell_5 ho.2.1) hl rfl rfl (ty := .boolean) (by decide +kernel) (by rcases hz with rfl | rfl <;> rfl) (by rcases hz with rfl | rfl <;> rfl) (by simp [oc5]) (by simp [oc5, stI]) hdg kk
theorem gf_5_3 (C : CX E cc own nL en fr lo) (hin : ∀ w ∈ wsX50, w ∈ AW) (ho : okO en 12 5) (hl : Cond.fieldLink own index "LeftoverRule$Voices" "kind" "I" ∈ AW) (hdg : decode cc pc = .ok (.getfield index, 3)) (kk : CF E S (pc + 3) L (.int (S.1 12 3) :: st)) : CF E S pc L (.ref (adr (vG E) 12 0) :: st) := cf_get C (ci := 5) (T := TX5) (N := 6) rfl hin ho.1 (ocell_5 ho.2.1) 3 (by decide) hl rfl hdg rfl kk
theorem pf_5_3 (C : CX E cc own nL en fr lo) (hin : ∀ w ∈ wsX50, w ∈ AW) {x : Int32} (ho : okO en 12 5) (hl : Cond.fieldLink own index "LeftoverRule$Voices" "kind" "I" ∈ AW) (hdg : decode cc pc = .ok (.putfield index, 3)) (kk : CF E (stI S 12 3 x) (pc + 3) L st) : CF E S pc L (.int x :: .ref (adr (vG E) 12 0) :: st) := cf_put C (ci := 5) (T := TX5) (N := 6) rfl hin tyX5 tyX5_ok nmX5 ho.1 (ocell_5 ho.2.1) 3 (by decide) (ocell_5 ho.2.1) hl rfl rfl (ty := .int) (by decide +kernel) rfl rfl (by simp [oc5]) (by simp [oc5, stI]) hdg kk
theorem gf_5_4 (C : CX E cc own nL en fr lo) (hin : ∀ w ∈ wsX50, w ∈ AW) (ho : okO en 12 5) (hl : Cond.fieldLink own index "LeftoverRule$Voices" "k" "I" ∈ AW) (hdg : decode cc pc = .ok (.getfield index, 3)) (kk : CF E S (pc + 3) L (.int (S.1 12 4) :: st)) : CF E S pc L (.ref (adr (vG E) 12 0) :: st) := cf_get C (ci := 5) (T := TX5) (N := 6) rfl hin ho.1 (ocell_5 ho.2.1) 4 (by decide) hl rfl hdg rfl kk
theorem pf_5_4 (C : CX E cc own nL en fr lo) (hin : ∀ w ∈ wsX50, w ∈ AW) {x : Int32} (ho : okO en 12 5) (hl : Cond.fieldLink own index "LeftoverRule$Voices" "k" "I" ∈ AW) (hdg : decode cc pc = .ok (.putfield index, 3)) (kk : CF E (stI S 12 4 x) (pc + 3) L st) : CF E S pc L (.int x :: .ref (adr (vG E) 12 0) :: st) := cf_put C (ci := 5) (T := TX5) (N := 6) rfl hin tyX5 tyX5_ok nmX5 ho.1 (ocell_5 ho.2.1) 4 (by decide) (ocell_5 ho.2.1) hl rfl rfl (ty := .int) (by decide +kernel) rfl rfl (by simp [oc5]) (by simp [oc5, stI]) hdg kk
theorem gf_5_5 (C : CX E cc own nL en fr lo) (hin : ∀ w ∈ wsX50, w ∈ AW) (ho : okO en 12 5) (hl : Cond.fieldLink own index "LeftoverRule$Voices" "m" "I" ∈ AW) (hdg : decode cc pc = .ok (.getfield index, 3)) (kk : CF E S (pc + 3) L (.int (S.1 12 5) :: st)) : CF E S pc L (.ref (adr (vG E) 12 0) :: st) := cf_get C (ci := 5) (T := TX5) (N := 6) rfl hin ho.1 (ocell_5 ho.2.1) 5 (by decide) hl rfl hdg rfl kk
theorem pf_5_5 (C : CX E cc own nL en fr lo) (hin : ∀ w ∈ wsX50, w ∈ AW) {x : Int32} (ho : okO en 12 5) (hl : Cond.fieldLink own index "LeftoverRule$Voices" "m" "I" ∈ AW) (hdg : decode cc pc = .ok (.putfield index, 3)) (kk : CF E (stI S 12 5 x) (pc + 3) L st) : CF E S pc L (.int x :: .ref (adr (vG E) 12 0) :: st) := cf_put C (ci := 5) (T := TX5) (N := 6) rfl hin tyX5 tyX5_ok nmX5 ho.1 (ocell_5 ho.2.1) 5 (by decide) (ocell_5 ho.2.1) hl rfl rfl (ty := .int) (by decide +kernel) rfl rfl (by simp [oc5]) (by simp [oc5, stI]) hdg kk
theorem gf_6_0 (C : CX E cc own nL en fr lo) (hin : ∀ w ∈ wsX60, w ∈ AW) (ho : okO en 0 6) (hl : Cond.fieldLink own index "LeftoverRule" "house" "LLeftoverRule$House;" ∈ AW) (hdg : decode cc pc = .ok (.getfield index, 3)) (kk : CF E S (pc + 3) L (.ref (adr (vG E) 1 0) :: st)) : CF E S pc L (.ref (adr (vG E) 0 0) :: st) := cf_get C (ci := 6) (T := TX6) (N := 9) rfl hin ho.1 (ocell_6 ho.2.1) 0 (by decide) hl rfl hdg rfl kk
theorem gf_6_1 (C : CX E cc own nL en fr lo) (hin : ∀ w ∈ wsX60, w ∈ AW) (ho : okO en 0 6) (hl : Cond.fieldLink own index "LeftoverRule" "kept" "LLeftoverRule$House;" ∈ AW) (hdg : decode cc pc = .ok (.getfield index, 3)) (kk : CF E S (pc + 3) L (.ref (adr (vG E) 2 0) :: st)) : CF E S pc L (.ref (adr (vG E) 0 0) :: st) := cf_get C (ci := 6) (T := TX6) (N := 9) rfl hin ho.1 (ocell_6 ho.2.1) 1 (by decide) hl rfl hdg rfl kk
theorem gf_6_2 (C : CX E cc own nL en fr lo) (hin : ∀ w ∈ wsX60, w ∈ AW) (ho : okO en 0 6) (hl : Cond.fieldLink own index "LeftoverRule" "table" "LLeftoverRule$Table;" ∈ AW) (hdg : decode cc pc = .ok (.getfield index, 3)) (kk : CF E S (pc + 3) L (.ref (adr (vG E) 3 0) :: st)) : CF E S pc L (.ref (adr (vG E) 0 0) :: st) := cf_get C (ci := 6) (T := TX6) (N := 9) rfl hin ho.1 (ocell_6 ho.2.1) 2 (by decide) hl rfl hdg rfl kk
theorem gf_6_3 (C : CX E cc own nL en fr lo) (hin : ∀ w ∈ wsX60, w ∈ AW) (ho : okO en 0 6) (hl : Cond.fieldLink own index "LeftoverRule" "thought" "LLeftoverRule$Table;" ∈ AW) (hdg : decode cc pc = .ok (.getfield index, 3)) (kk : CF E S (pc + 3) L (.ref (adr (vG E) 5 0) :: st)) : CF E S pc L (.ref (adr (vG E) 0 0) :: st) := cf_get C (ci := 6) (T := TX6) (N := 9) rfl hin ho.1 (ocell_6 ho.2.1) 3 (by decide) hl rfl hdg rfl kk
theorem gf_6_4 (C : CX E cc own nL en fr lo) (hin : ∀ w ∈ wsX60, w ∈ AW) (ho : okO en 0 6) (hl : Cond.fieldLink own index "LeftoverRule" "reader" "LLeftoverRule$Reader;" ∈ AW) (hdg : decode cc pc = .ok (.getfield index, 3)) (kk : CF E S (pc + 3) L (.ref (adr (vG E) 11 0) :: st)) : CF E S pc L (.ref (adr (vG E) 0 0) :: st) := cf_get C (ci := 6) (T := TX6) (N := 9) rfl hin ho.1 (ocell_6 ho.2.1) 4 (by decide) hl rfl hdg rfl kk
theorem gf_6_5 (C : CX E cc own nL en fr lo) (hin : ∀ w ∈ wsX60, w ∈ AW) (ho : okO en 0 6) (hl : Cond.fieldLink own index "LeftoverRule" "voices" "LLeftoverRule$Voices;" ∈ AW) (hdg : decode cc pc = .ok (.getfield index, 3)) (kk : CF E S (pc + 3) L (.ref (adr (vG E) 12 0) :: st)) : CF E S pc L (.ref (adr (vG E) 0 0) :: st) := cf_get C (ci := 6) (T := TX6) (N := 9) rfl hin ho.1 (ocell_6 ho.2.1) 5 (by decide) hl rfl hdg rfl kk
theorem gf_6_6 (C : CX E cc own nL en fr lo) (hin : ∀ w ∈ wsX60, w ∈ AW) (ho : okO en 0 6) (hl : Cond.fieldLink own index "LeftoverRule" "sheets" "[LLeftoverRule$Sheet;" ∈ AW) (hdg : decode cc pc = .ok (.getfield index, 3)) (kk : CF E S (pc + 3) L (.ref (adr (vG E) 0 7) :: st)) : CF E S pc L (.ref (adr (vG E) 0 0) :: st) := cf_get C (ci := 6) (T := TX6) (N := 9) rfl hin ho.1 (ocell_6 ho.2.1) 6 (by decide) hl rfl hdg rfl kk
theorem gf_6_7 (C : CX E cc own nL en fr lo) (hin : ∀ w ∈ wsX60, w ∈ AW) (ho : okO en 0 6) (hl : Cond.fieldLink own index "LeftoverRule" "errors" "[I" ∈ AW) (hdg : decode cc pc = .ok (.getfield index, 3)) (kk : CF E S (pc + 3) L (.ref (adr (vG E) 0 8) :: st)) : CF E S pc L (.ref (adr (vG E) 0 0) :: st) := cf_get C (ci := 6) (T := TX6) (N := 9) rfl hin ho.1 (ocell_6 ho.2.1) 7 (by decide) hl rfl hdg rfl kk
theorem gf_6_8 (C : CX E cc own nL en fr lo) (hin : ∀ w ∈ wsX60, w ∈ AW) (ho : okO en 0 6) (hl : Cond.fieldLink own index "LeftoverRule" "images" "I" ∈ AW) (hdg : decode cc pc = .ok (.getfield index, 3)) (kk : CF E S (pc + 3) L (.int (S.1 0 8) :: st)) : CF E S pc L (.ref (adr (vG E) 0 0) :: st) := cf_get C (ci := 6) (T := TX6) (N := 9) rfl hin ho.1 (ocell_6 ho.2.1) 8 (by decide) hl rfl hdg rfl kk
theorem pf_6_8 (C : CX E cc own nL en fr lo) (hin : ∀ w ∈ wsX60, w ∈ AW) {x : Int32} (ho : okO en 0 6) (hl : Cond.fieldLink own index "LeftoverRule" "images" "I" ∈ AW) (hdg : decode cc pc = .ok (.putfield index, 3)) (kk : CF E (stI S 0 8 x) (pc + 3) L st) : CF E S pc L (.int x :: .ref (adr (vG E) 0 0) :: st) := cf_put C (ci := 6) (T := TX6) (N := 9) rfl hin tyX6 tyX6_ok nmX6 ho.1 (ocell_6 ho.2.1) 8 (by decide) (ocell_6 ho.2.1) hl rfl rfl (ty := .int) (by decide +kernel) rfl rfl (by simp [oc6]) (by simp [oc6, stI]) hdg kk
theorem gf_7_0 (C : CX E cc own nL en fr lo) (hin : ∀ w ∈ wsX70, w ∈ AW) (ho : okO en 17 7) (hl : Cond.fieldLink own index "LeftoverRuleModel" "s" "[I" ∈ AW) (hdg : decode cc pc = .ok (.getfield index, 3)) (kk : CF E S (pc + 3) L (.ref (adr (vG E) 17 1) :: st)) : CF E S pc L (.ref (adr (vG E) 17 0) :: st) := cf_get C (ci := 7) (T := TX7) (N := 22) rfl hin ho.1 (ocell_7 ho.2.1) 0 (by decide) hl rfl hdg rfl kk
theorem gf_7_1 (C : CX E cc own nL en fr lo) (hin : ∀ w ∈ wsX70, w ∈ AW) (ho : okO en 17 7) (hl : Cond.fieldLink own index "LeftoverRuleModel" "kept" "[I" ∈ AW) (hdg : decode cc pc = .ok (.getfield index, 3)) (kk : CF E S (pc + 3) L (.ref (adr (vG E) 17 2) :: st)) : CF E S pc L (.ref (adr (vG E) 17 0) :: st) := cf_get C (ci := 7) (T := TX7) (N := 22) rfl hin ho.1 (ocell_7 ho.2.1) 1 (by decide) hl rfl hdg rfl kk
theorem gf_7_2 (C : CX E cc own nL en fr lo) (hin : ∀ w ∈ wsX70, w ∈ AW) (ho : okO en 17 7) (hl : Cond.fieldLink own index "LeftoverRuleModel" "laid" "[I" ∈ AW) (hdg : decode cc pc = .ok (.getfield index, 3)) (kk : CF E S (pc + 3) L (.ref (adr (vG E) 17 3) :: st)) : CF E S pc L (.ref (adr (vG E) 17 0) :: st) := cf_get C (ci := 7) (T := TX7) (N := 22) rfl hin ho.1 (ocell_7 ho.2.1) 2 (by decide) hl rfl hdg rfl kk
theorem gf_7_3 (C : CX E cc own nL en fr lo) (hin : ∀ w ∈ wsX70, w ∈ AW) (ho : okO en 17 7) (hl : Cond.fieldLink own index "LeftoverRuleModel" "images" "I" ∈ AW) (hdg : decode cc pc = .ok (.getfield index, 3)) (kk : CF E S (pc + 3) L (.int (S.1 17 3) :: st)) : CF E S pc L (.ref (adr (vG E) 17 0) :: st) := cf_get C (ci := 7) (T := TX7) (N := 22) rfl hin ho.1 (ocell_7 ho.2.1) 3 (by decide) hl rfl hdg rfl kk
theorem pf_7_3 (C : CX E cc own nL en fr lo) (hin : ∀ w ∈ wsX70, w ∈ AW) {x : Int32} (ho : okO en 17 7) (hl : Cond.fieldLink own index "LeftoverRuleModel" "images" "I" ∈ AW) (hdg : decode cc pc = .ok (.putfield index, 3)) (kk : CF E (stI S 17 3 x) (pc + 3) L st) : CF E S pc L (.int x :: .ref (adr (vG E) 17 0) :: st) := cf_put C (ci := 7) (T := TX7) (N := 22) rfl hin tyX7 tyX7_ok nmX7 ho.1 (ocell_7 ho.2.1) 3 (by decide) (ocell_7 ho.2.1) hl rfl rfl (ty := .int) (by decide +kernel) rfl rfl (by simp [oc7]) (by simp [oc7, stI]) hdg kk
theorem gf_7_4 (C : CX E cc own nL en fr lo) (hin : ∀ w ∈ wsX70, w ∈ AW) (ho : okO en 17 7) (hl : Cond.fieldLink own index "LeftoverRuleModel" "errors" "[I" ∈ AW) (hdg : decode cc pc = .ok (.getfield index, 3)) (kk : CF E S (pc + 3) L (.ref (adr (vG E) 17 5) :: st)) : CF E S pc L (.ref (adr (vG E) 17 0) :: st) := cf_get C (ci := 7) (T := TX7) (N := 22) rfl hin ho.1 (ocell_7 ho.2.1) 4 (by decide) hl rfl hdg rfl kk
theorem gf_7_5 (C : CX E cc own nL en fr lo) (hin : ∀ w ∈ wsX70, w ∈ AW) (ho : okO en 17 7) (hl : Cond.fieldLink own index "LeftoverRuleModel" "at" "I" ∈ AW) (hdg : decode cc pc = .ok (.getfield index, 3)) (kk : CF E S (pc + 3) L (.int (S.1 17 5) :: st)) : CF E S pc L (.ref (adr (vG E) 17 0) :: st) := cf_get C (ci := 7) (T := TX7) (N := 22) rfl hin ho.1 (ocell_7 ho.2.1) 5 (by decide) hl rfl hdg rfl kk
theorem pf_7_5 (C : CX E cc own nL en fr lo) (hin : ∀ w ∈ wsX70, w ∈ AW) {x : Int32} (ho : okO en 17 7) (hl : Cond.fieldLink own index "LeftoverRuleModel" "at" "I" ∈ AW) (hdg : decode cc pc = .ok (.putfield index, 3)) (kk : CF E (stI S 17 5 x) (pc + 3) L st) : CF E S pc L (.int x :: .ref (adr (vG E) 17 0) :: st) := cf_put C (ci := 7) (T := TX7) (N := 22) rfl hin tyX7 tyX7_ok nmX7 ho.1 (ocell_7 ho.2.1) 5 (by decide) (ocell_7 ho.2.1) hl rfl rfl (ty := .int) (by decide +kernel) rfl rfl (by simp [oc7]) (by simp [oc7, stI]) hdg kk
theorem gf_7_6 (C : CX E cc own nL en fr lo) (hin : ∀ w ∈ wsX70, w ∈ AW) (ho : okO en 17 7) (hl : Cond.fieldLink own index "LeftoverRuleModel" "open" "I" ∈ AW) (hdg : decode cc pc = .ok (.getfield index, 3)) (kk : CF E S (pc + 3) L (.int (S.1 17 6) :: st)) : CF E S pc L (.ref (adr (vG E) 17 0) :: st) := cf_get C (ci := 7) (T := TX7) (N := 22) rfl hin ho.1 (ocell_7 ho.2.1) 6 (by decide) hl rfl hdg rfl kk
theorem pf_7_6 (C : CX E cc own nL en fr lo) (hin : ∀ w ∈ wsX70, w ∈ AW) {x : Int32} (ho : okO en 17 7) (hl : Cond.fieldLink own index "LeftoverRuleModel" "open" "I" ∈ AW) (hdg : decode cc pc = .ok (.putfield index, 3)) (kk : CF E (stI S 17 6 x) (pc + 3) L st) : CF E S pc L (.int x :: .ref (adr (vG E) 17 0) :: st) := cf_put C (ci := 7) (T := TX7) (N := 22) rfl hin tyX7 tyX7_ok nmX7 ho.1 (ocell_7 ho.2.1) 6 (by decide) (ocell_7 ho.2.1) hl rfl rfl (ty := .int) (by decide +kernel) rfl rfl (by simp [oc7]) (by simp [oc7, stI]) hdg kk
theorem gf_7_7 (C : CX E cc own nL en fr lo) (hin : ∀ w ∈ wsX70, w ∈ AW) (ho : okO en 17 7) (hl : Cond.fieldLink own index "LeftoverRuleModel" "steps" "I" ∈ AW) (hdg : decode cc pc = .ok (.getfield index, 3)) (kk : CF E S (pc + 3) L (.int (S.1 17 7) :: st)) : CF E S pc L (.ref (adr (vG E) 17 0) :: st) := cf_get C (ci := 7) (T := TX7) (N := 22) rfl hin ho.1 (ocell_7 ho.2.1) 7 (by decide) hl rfl hdg rfl kk
theorem pf_7_7 (C : CX E cc own nL en fr lo) (hin : ∀ w ∈ wsX70, w ∈ AW) {x : Int32} (ho : okO en 17 7) (hl : Cond.fieldLink own index "LeftoverRuleModel" "steps" "I" ∈ AW) (hdg : decode cc pc = .ok (.putfield index, 3)) (kk : CF E (stI S 17 7 x) (pc + 3) L st) : CF E S pc L (.int x :: .ref (adr (vG E) 17 0) :: st) := cf_put C (ci := 7) (T := TX7) (N := 22) rfl hin tyX7 tyX7_ok nmX7 ho.1 (ocell_7 ho.2.1) 7 (by decide) (ocell_7 ho.2.1) hl rfl rfl (ty := .int) (by decide +kernel) rfl rfl (by simp [oc7]) (by simp [oc7, stI]) hdg kk
theorem gf_7_8 (C : CX E cc own nL en fr lo) (hin : ∀ w ∈ wsX70, w ∈ AW) (ho : okO en 17 7) (hl : Cond.fieldLink own index "LeftoverRuleModel" "use" "I" ∈ AW) (hdg : decode cc pc = .ok (.getfield index, 3)) (kk : CF E S (pc + 3) L (.int (S.1 17 8) :: st)) : CF E S pc L (.ref (adr (vG E) 17 0) :: st) := cf_get C (ci := 7) (T := TX7) (N := 22) rfl hin ho.1 (ocell_7 ho.2.1) 8 (by decide) hl rfl hdg rfl kk
theorem pf_7_8 (C : CX E cc own nL en fr lo) (hin : ∀ w ∈ wsX70, w ∈ AW) {x : Int32} (ho : okO en 17 7) (hl : Cond.fieldLink own index "LeftoverRuleModel" "use" "I" ∈ AW) (hdg : decode cc pc = .ok (.putfield index, 3)) (kk : CF E (stI S 17 8 x) (pc + 3) L st) : CF E S pc L (.int x :: .ref (adr (vG E) 17 0) :: st) := cf_put C (ci := 7) (T := TX7) (N := 22) rfl hin tyX7 tyX7_ok nmX7 ho.1 (ocell_7 ho.2.1) 8 (by decide) (ocell_7 ho.2.1) hl rfl rfl (ty := .int) (by decide +kernel) rfl rfl (by simp [oc7]) (by simp [oc7, stI]) hdg kk
theorem gf_7_9 (C : CX E cc own nL en fr lo) (hin : ∀ w ∈ wsX70, w ∈ AW) (ho : okO en 17 7) (hl : Cond.fieldLink own index "LeftoverRuleModel" "step" "[I" ∈ AW) (hdg : decode cc pc = .ok (.getfield index, 3)) (kk : CF E S (pc + 3) L (.ref (adr (vG E) 17 10) :: st)) : CF E S pc L (.ref (adr (vG E) 17 0) :: st) := cf_get C (ci := 7) (T := TX7) (N := 22) rfl hin ho.1 (ocell_7 ho.2.1) 9 (by decide) hl rfl hdg rfl kk
theorem gf_7_10 (C : CX E cc own nL en fr lo) (hin : ∀ w ∈ wsX70, w ∈ AW) (ho : okO en 17 7) (hl : Cond.fieldLink own index "LeftoverRuleModel" "named" "[I" ∈ AW) (hdg : decode cc pc = .ok (.getfield index, 3)) (kk : CF E S (pc + 3) L (.ref (adr (vG E) 17 11) :: st)) : CF E S pc L (.ref (adr (vG E) 17 0) :: st) := cf_get C (ci := 7) (T := TX7) (N := 22) rfl hin ho.1 (ocell_7 ho.2.1) 10 (by decide) hl rfl hdg rfl kk
theorem gf_7_11 (C : CX E cc own nL en fr lo) (hin : ∀ w ∈ wsX70, w ∈ AW) (ho : okO en 17 7) (hl : Cond.fieldLink own index "LeftoverRuleModel" "pile" "[I" ∈ AW) (hdg : decode cc pc = .ok (.getfield index, 3)) (kk : CF E S (pc + 3) L (.ref (adr (vG E) 17 12) :: st)) : CF E S pc L (.ref (adr (vG E) 17 0) :: st) := cf_get C (ci := 7) (T := TX7) (N := 22) rfl hin ho.1 (ocell_7 ho.2.1) 11 (by decide) hl rfl hdg rfl kk
theorem gf_7_12 (C : CX E cc own nL en fr lo) (hin : ∀ w ∈ wsX70, w ∈ AW) (ho : okO en 17 7) (hl : Cond.fieldLink own index "LeftoverRuleModel" "claims" "[I" ∈ AW) (hdg : decode cc pc = .ok (.getfield index, 3)) (kk : CF E S (pc + 3) L (.ref (adr (vG E) 17 13) :: st)) : CF E S pc L (.ref (adr (vG E) 17 0) :: st) := cf_get C (ci := 7) (T := TX7) (N := 22) rfl hin ho.1 (ocell_7 ho.2.1) 12 (by decide) hl rfl hdg rfl kk
theorem gf_7_13 (C : CX E cc own nL en fr lo) (hin : ∀ w ∈ wsX70, w ∈ AW) (ho : okO en 17 7) (hl : Cond.fieldLink own index "LeftoverRuleModel" "mayBe" "[Z" ∈ AW) (hdg : decode cc pc = .ok (.getfield index, 3)) (kk : CF E S (pc + 3) L (.ref (adr (vG E) 17 14) :: st)) : CF E S pc L (.ref (adr (vG E) 17 0) :: st) := cf_get C (ci := 7) (T := TX7) (N := 22) rfl hin ho.1 (ocell_7 ho.2.1) 13 (by decide) hl rfl hdg rfl kk
theorem gf_7_14 (C : CX E cc own nL en fr lo) (hin : ∀ w ∈ wsX70, w ∈ AW) (ho : okO en 17 7) (hl : Cond.fieldLink own index "LeftoverRuleModel" "traced" "I" ∈ AW) (hdg : decode cc pc = .ok (.getfield index, 3)) (kk : CF E S (pc + 3) L (.int (S.1 17 14) :: st)) : CF E S pc L (.ref (adr (vG E) 17 0) :: st) := cf_get C (ci := 7) (T := TX7) (N := 22) rfl hin ho.1 (ocell_7 ho.2.1) 14 (by decide) hl rfl hdg rfl kk
theorem pf_7_14 (C : CX E cc own nL en fr lo) (hin : ∀ w ∈ wsX70, w ∈ AW) {x : Int32} (ho : okO en 17 7) (hl : Cond.fieldLink own index "LeftoverRuleModel" "traced" "I" ∈ AW) (hdg : decode cc pc = .ok (.putfield index, 3)) (kk : CF E (stI S 17 14 x) (pc + 3) L st) : CF E S pc L (.int x :: .ref (adr (vG E) 17 0) :: st) := cf_put C (ci := 7) (T := TX7) (N := 22) rfl hin tyX7 tyX7_ok nmX7 ho.1 (ocell_7 ho.2.1) 14 (by decide) (ocell_7 ho.2.1) hl rfl rfl (ty := .int) (by decide +kernel) rfl rfl (by simp [oc7]) (by simp [oc7, stI]) hdg kk
theorem gf_7_15 (C : CX E cc own nL en fr lo) (hin : ∀ w ∈ wsX70, w ∈ AW) (ho : okO en 17 7) (hl : Cond.fieldLink own index "LeftoverRuleModel" "trace" "[I" ∈ AW) (hdg : decode cc pc = .ok (.getfield index, 3)) (kk : CF E S (pc + 3) L (.ref (adr (vG E) 17 16) :: st)) : CF E S pc L (.ref (adr (vG E) 17 0) :: st) := cf_get C (ci := 7) (T := TX7) (N := 22) rfl hin ho.1 (ocell_7 ho.2.1) 15 (by decide) hl rfl hdg rfl kk
theorem gf_7_16 (C : CX E cc own nL en fr lo) (hin : ∀ w ∈ wsX70, w ∈ AW) (ho : okO en 17 7) (hl : Cond.fieldLink own index "LeftoverRuleModel" "speaks" "I" ∈ AW) (hdg : decode cc pc = .ok (.getfield index, 3)) (kk : CF E S (pc + 3) L (.int (S.1 17 16) :: st)) : CF E S pc L (.ref (adr (vG E) 17 0) :: st) := cf_get C (ci := 7) (T := TX7) (N := 22) rfl hin ho.1 (ocell_7 ho.2.1) 16 (by decide) hl rfl hdg rfl kk
theorem pf_7_16 (C : CX E cc own nL en fr lo) (hin : ∀ w ∈ wsX70, w ∈ AW) {x : Int32} (ho : okO en 17 7) (hl : Cond.fieldLink own index "LeftoverRuleModel" "speaks" "I" ∈ AW) (hdg : decode cc pc = .ok (.putfield index, 3)) (kk : CF E (stI S 17 16 x) (pc + 3) L st) : CF E S pc L (.int x :: .ref (adr (vG E) 17 0) :: st) := cf_put C (ci := 7) (T := TX7) (N := 22) rfl hin tyX7 tyX7_ok nmX7 ho.1 (ocell_7 ho.2.1) 16 (by decide) (ocell_7 ho.2.1) hl rfl rfl (ty := .int) (by decide +kernel) rfl rfl (by simp [oc7]) (by simp [oc7, stI]) hdg kk
theorem gf_7_17 (C : CX E cc own nL en fr lo) (hin : ∀ w ∈ wsX70, w ∈ AW) (ho : okO en 17 7) (hl : Cond.fieldLink own index "LeftoverRuleModel" "isParted" "Z" ∈ AW) (hdg : decode cc pc = .ok (.getfield index, 3)) (kk : CF E S (pc + 3) L (.int (S.1 17 17) :: st)) : CF E S pc L (.ref (adr (vG E) 17 0) :: st) := cf_get C (ci := 7) (T := TX7) (N := 22) rfl hin ho.1 (ocell_7 ho.2.1) 17 (by decide) hl rfl hdg rfl kk
theorem pf_7_17 (C : CX E cc own nL en fr lo) (hin : ∀ w ∈ wsX70, w ∈ AW) {x : Int32} (hz : x = 0 ∨ x = 1) (ho : okO en 17 7) (hl : Cond.fieldLink own index "LeftoverRuleModel" "isParted" "Z" ∈ AW) (hdg : decode cc pc = .ok (.putfield index, 3)) (kk : CF E (stI S 17 17 x) (pc + 3) L st) : CF E S pc L (.int x :: .ref (adr (vG E) 17 0) :: st) := cf_put C (ci := 7) (T := TX7) (N := 22) rfl hin tyX7 tyX7_ok nmX7 ho.1 (ocell_7 ho.2.1) 17 (by decide) (ocell_7 ho.2.1) hl rfl rfl (ty := .boolean) (by decide +kernel) (by rcases hz with rfl | rfl <;> rfl) (by rcases hz with rfl | rfl <;> rfl) (by simp [oc7]) (by simp [oc7, stI]) hdg kk
theorem gf_7_18 (C : CX E cc own nL en fr lo) (hin : ∀ w ∈ wsX70, w ∈ AW) (ho : okO en 17 7) (hl : Cond.fieldLink own index "LeftoverRuleModel" "bits" "[I" ∈ AW) (hdg : decode cc pc = .ok (.getfield index, 3)) (kk : CF E S (pc + 3) L (.ref (adr (vG E) 17 19) :: st)) : CF E S pc L (.ref (adr (vG E) 17 0) :: st) := cf_get C (ci := 7) (T := TX7) (N := 22) rfl hin ho.1 (ocell_7 ho.2.1) 18 (by decide) hl rfl hdg rfl kk
theorem gf_7_19 (C : CX E cc own nL en fr lo) (hin : ∀ w ∈ wsX70, w ∈ AW) (ho : okO en 17 7) (hl : Cond.fieldLink own index "LeftoverRuleModel" "sizes" "[I" ∈ AW) (hdg : decode cc pc = .ok (.getfield index, 3)) (kk : CF E S (pc + 3) L (.ref (adr (vG E) 17 20) :: st)) : CF E S pc L (.ref (adr (vG E) 17 0) :: st) := cf_get C (ci := 7) (T := TX7) (N := 22) rfl hin ho.1 (ocell_7 ho.2.1) 19 (by decide) hl rfl hdg rfl kk
theorem gf_7_20 (C : CX E cc own nL en fr lo) (hin : ∀ w ∈ wsX70, w ∈ AW) (ho : okO en 17 7) (hl : Cond.fieldLink own index "LeftoverRuleModel" "number" "[I" ∈ AW) (hdg : decode cc pc = .ok (.getfield index, 3)) (kk : CF E S (pc + 3) L (.ref (adr (vG E) 17 21) :: st)) : CF E S pc L (.ref (adr (vG E) 17 0) :: st) := cf_get C (ci := 7) (T := TX7) (N := 22) rfl hin ho.1 (ocell_7 ho.2.1) 20 (by decide) hl rfl hdg rfl kk
theorem gf_7_21 (C : CX E cc own nL en fr lo) (hin : ∀ w ∈ wsX70, w ∈ AW) (ho : okO en 17 7) (hl : Cond.fieldLink own index "LeftoverRuleModel" "aside" "[I" ∈ AW) (hdg : decode cc pc = .ok (.getfield index, 3)) (kk : CF E S (pc + 3) L (.ref (adr (vG E) 17 22) :: st)) : CF E S pc L (.ref (adr (vG E) 17 0) :: st) := cf_get C (ci := 7) (T := TX7) (N := 22) rfl hin ho.1 (ocell_7 ho.2.1) 21 (by decide) hl rfl hdg rfl kk
end CFR
