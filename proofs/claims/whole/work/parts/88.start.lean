/-! THE START: the two objects' cells are the stores' -/
def tabC : List ((Nat × Nat) × Nat) := [((1, 0), 0), ((6, 0), 1), ((6, 3), 2), ((6, 4), 3), ((7, 0), 4), ((7, 3), 5), ((7, 4), 6), ((3, 0), 7), ((3, 6), 8), ((3, 7), 9), ((3, 8), 10), ((3, 9), 11), ((3, 10), 12), ((3, 11), 13), ((1, 4), 14), ((1, 6), 15), ((2, 0), 16), ((8, 0), 17), ((8, 3), 18), ((8, 4), 19), ((9, 0), 20), ((9, 3), 21), ((9, 4), 22), ((4, 0), 23), ((4, 6), 24), ((4, 7), 25), ((4, 8), 26), ((4, 9), 27), ((4, 10), 28), ((4, 11), 29), ((2, 4), 30), ((2, 6), 31), ((5, 0), 32), ((5, 6), 33), ((5, 7), 34), ((5, 8), 35), ((5, 9), 36), ((5, 10), 37), ((5, 11), 38), ((11, 0), 39), ((10, 0), 40), ((10, 3), 41), ((10, 4), 42), ((11, 2), 43), ((12, 0), 44), ((12, 1), 45), ((0, 7), 46), ((0, 8), 47), ((13, 0), 48), ((13, 3), 49), ((14, 0), 50), ((14, 3), 51), ((15, 0), 52), ((15, 3), 53), ((16, 0), 54), ((16, 3), 55)]
def tabM : List (Nat × Nat) := [(1, 0), (2, 1), (3, 2), (5, 3), (10, 4), (11, 5), (12, 6), (13, 7), (14, 8), (16, 9), (19, 10), (20, 11), (21, 12), (22, 13)]
def aC (q0 : Nat) (u : Nat → Nat) (o k : Nat) : Nat := ((tabC.lookup (o, k)).map u).getD q0
def aM (q1 : Nat) (v : Nat → Nat) (k : Nat) : Nat := ((tabM.lookup k).map v).getD q1
def ordC : List (Nat × Nat) := [(0, 0), (0, 7), (1, 0), (6, 0), (6, 3), (6, 4), (7, 0), (7, 3), (7, 4), (3, 0), (3, 6), (3, 7), (3, 8), (3, 9), (3, 10), (3, 11), (1, 4), (1, 6), (2, 0), (8, 0), (8, 3), (8, 4), (9, 0), (9, 3), (9, 4), (4, 0), (4, 6), (4, 7), (4, 8), (4, 9), (4, 10), (4, 11), (2, 4), (2, 6), (5, 0), (5, 6), (5, 7), (5, 8), (5, 9), (5, 10), (5, 11), (11, 0), (10, 0), (10, 3), (10, 4), (11, 2), (12, 0), (12, 1), (0, 8), (13, 0), (13, 3), (14, 0), (14, 3), (15, 0), (15, 3), (16, 0), (16, 3)]
theorem ordC_perm : ordC.Perm enC := by decide +kernel
theorem enM_eq : enM = (17, 0) :: tabM.map (fun z => (17, z.1)) := by decide +kernel
def mkG (D : va_G) (cI cZ cS : ClassId) (t0 t1 t2 q0 q1 : Nat) (u v : Nat → Nat) : GX := (D, fun o k => if o = 17 then aM q1 v k else aC q0 u o k, (cI, cZ, cS), (t0, t1, t2))
theorem up_S0M : upd (fun _ => 0) 2 1 = S0M.2 17 0 := funext (fun j => by show (if j = 2 then (1 : Int32) else 0) = if 17 = 17 ∧ 0 = 0 ∧ j = 2 then 1 else 0; simp)
set_option maxRecDepth 100000 in
set_option maxHeartbeats 4000000 in
theorem cls_eq (D : va_G) (cI cZ cS : ClassId) (t0 t1 t2 q0 q1 : Nat) (u v : Nat → Nat) : (wClass cI cS q0 u).set 1 (u 46, .inl (cS, (4, .inr (.inr (.inr (.inr (fun i => some (adr (mkG D cI cZ cS t0 t1 t2 q0 q1 u v) (13 + i) 0)))))))) = wld (mkG D cI cZ cS t0 t1 t2 q0 q1 u v) ordC S0C := by
  simp only [wClass, wHouse, wLaw, wTable, wReader, wVoices, wSheet, List.cons_append, List.nil_append, List.append_assoc, List.set_cons_succ, List.set_cons_zero]
  simp only [wld, ordC, List.map_cons, List.map_nil]
  refine congr (congrArg List.cons rfl) ?_
  refine congr (congrArg List.cons rfl) ?_
  refine congr (congrArg List.cons rfl) ?_
  refine congr (congrArg List.cons rfl) ?_
  refine congr (congrArg List.cons rfl) ?_
  refine congr (congrArg List.cons rfl) ?_
  refine congr (congrArg List.cons rfl) ?_
  refine congr (congrArg List.cons rfl) ?_
  refine congr (congrArg List.cons rfl) ?_
  refine congr (congrArg List.cons rfl) ?_
  refine congr (congrArg List.cons rfl) ?_
  refine congr (congrArg List.cons rfl) ?_
  refine congr (congrArg List.cons rfl) ?_
  refine congr (congrArg List.cons rfl) ?_
  refine congr (congrArg List.cons rfl) ?_
  refine congr (congrArg List.cons rfl) ?_
  refine congr (congrArg List.cons rfl) ?_
  refine congr (congrArg List.cons rfl) ?_
  refine congr (congrArg List.cons rfl) ?_
  refine congr (congrArg List.cons rfl) ?_
  refine congr (congrArg List.cons rfl) ?_
  refine congr (congrArg List.cons rfl) ?_
  refine congr (congrArg List.cons rfl) ?_
  refine congr (congrArg List.cons rfl) ?_
  refine congr (congrArg List.cons rfl) ?_
  refine congr (congrArg List.cons rfl) ?_
  refine congr (congrArg List.cons rfl) ?_
  refine congr (congrArg List.cons rfl) ?_
  refine congr (congrArg List.cons rfl) ?_
  refine congr (congrArg List.cons rfl) ?_
  refine congr (congrArg List.cons rfl) ?_
  refine congr (congrArg List.cons rfl) ?_
  refine congr (congrArg List.cons rfl) ?_
  refine congr (congrArg List.cons rfl) ?_
  refine congr (congrArg List.cons rfl) ?_
  refine congr (congrArg List.cons rfl) ?_
  refine congr (congrArg List.cons rfl) ?_
  refine congr (congrArg List.cons rfl) ?_
  refine congr (congrArg List.cons rfl) ?_
  refine congr (congrArg List.cons rfl) ?_
  refine congr (congrArg List.cons rfl) ?_
  refine congr (congrArg List.cons rfl) ?_
  refine congr (congrArg List.cons rfl) ?_
  refine congr (congrArg List.cons rfl) ?_
  refine congr (congrArg List.cons rfl) ?_
  refine congr (congrArg List.cons rfl) ?_
  refine congr (congrArg List.cons rfl) ?_
  refine congr (congrArg List.cons rfl) ?_
  refine congr (congrArg List.cons rfl) ?_
  refine congr (congrArg List.cons rfl) ?_
  refine congr (congrArg List.cons rfl) ?_
  refine congr (congrArg List.cons rfl) ?_
  refine congr (congrArg List.cons rfl) ?_
  refine congr (congrArg List.cons rfl) ?_
  refine congr (congrArg List.cons rfl) ?_
  refine congr (congrArg List.cons rfl) ?_
  refine congr (congrArg List.cons rfl) ?_
  rfl
set_option maxRecDepth 100000 in
set_option maxHeartbeats 4000000 in
theorem mod_eq (D : va_G) (cI cZ cS : ClassId) (t0 t1 t2 q0 q1 : Nat) (u v : Nat → Nat) : wModel cI cZ q1 v = wld (mkG D cI cZ cS t0 t1 t2 q0 q1 u v) enM S0M := by
  unfold wModel
  rw [up_S0M, enM_eq]
  simp only [wld, tabM, List.map_cons, List.map_nil]
  refine congr (congrArg List.cons rfl) ?_
  refine congr (congrArg List.cons rfl) ?_
  refine congr (congrArg List.cons rfl) ?_
  refine congr (congrArg List.cons rfl) ?_
  refine congr (congrArg List.cons rfl) ?_
  refine congr (congrArg List.cons rfl) ?_
  refine congr (congrArg List.cons rfl) ?_
  refine congr (congrArg List.cons rfl) ?_
  refine congr (congrArg List.cons rfl) ?_
  refine congr (congrArg List.cons rfl) ?_
  refine congr (congrArg List.cons rfl) ?_
  refine congr (congrArg List.cons rfl) ?_
  refine congr (congrArg List.cons rfl) ?_
  refine congr (congrArg List.cons rfl) ?_
  refine congr (congrArg List.cons rfl) ?_
  rfl
