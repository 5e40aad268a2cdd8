/-! THE START: the two stores of a new object and of a new reference -/
def S0C : St := (fun o k => if (o = 6 ∨ o = 8) ∧ k = 0 then 999 else if (o = 7 ∨ o = 9) ∧ (k = 0 ∨ k = 1) then 1 else if (o = 1 ∨ o = 2) ∧ k = 7 then 1 else 0, fun _ _ _ => 0)
def S0M : St := (fun _ _ => 0, fun o k j => if o = 17 ∧ k = 0 ∧ j = 2 then 1 else 0)
theorem rel_0 : Rel 0 S0C S0M := by
  have no : ∀ (j : Nat) (v : Int32), ([] : List Int32)[j]? = some v → False := fun j v h => by simp at h
  refine ⟨⟨((0, 0, 0, fun _ _ => 0), ([], []), 1, [], []), ⟨⟨rfl, rfl, rfl, fun w d _ hd => absurd hd (Nat.not_lt_zero d)⟩, ⟨rfl, fun j t h => (no j t h).elim⟩, ⟨rfl, fun j t h => (no j t h).elim⟩, rfl, ⟨rfl, fun j t h => (no j t h).elim⟩, rfl, fun j t h => (no j t h).elim⟩, ⟨⟨rfl, rfl, rfl, fun w d _ hd => absurd hd (Nat.not_lt_zero d)⟩, ⟨⟨rfl, fun j t h => (no j t h).elim⟩, rfl, fun j t h => (no j t h).elim⟩, rfl, ⟨rfl, fun j t h => (no j t h).elim⟩, rfl, fun j t h => (no j t h).elim⟩, ⟨⟨Nat.zero_le _, ⟨by decide, by decide⟩, fun d hd => absurd hd (Nat.not_lt_zero d)⟩, ⟨⟨Nat.zero_le _, Or.inl rfl⟩, Nat.zero_le _, Or.inl rfl⟩, ⟨by decide, by decide⟩, Nat.zero_le _, Nat.zero_le _⟩⟩, ⟨rfl, rfl, rfl, rfl⟩, ⟨0, Nat.le_refl _, rfl, rfl, Or.inl rfl⟩, fun k _ => ?_, ⟨[], Nat.zero_le _, rfl, rfl, fun j v h => (no j v h).elim⟩, fun j hj => ⟨0, 0, Or.inl rfl, Nat.zero_le _, ?_, ?_, ?_, ?_, fun i _ => ?_⟩⟩
  · show (0 : Int32) = if (17 : Nat) = 17 ∧ (4 : Nat) = 0 ∧ k = 2 then 1 else 0
    rw [if_neg (by omega)]
  · show (if (13 + j = 6 ∨ 13 + j = 8) ∧ (0 : Nat) = 0 then (999 : Int32) else if (13 + j = 7 ∨ 13 + j = 9) ∧ ((0 : Nat) = 0 ∨ (0 : Nat) = 1) then 1 else if (13 + j = 1 ∨ 13 + j = 2) ∧ (0 : Nat) = 7 then 1 else 0) = 0
    rw [if_neg (by omega), if_neg (by omega), if_neg (by omega)]
  · show (if (17 : Nat) = 17 ∧ (18 : Nat) = 0 ∧ j = 2 then (1 : Int32) else 0) = 0
    rw [if_neg (by omega)]
  · show (if (13 + j = 6 ∨ 13 + j = 8) ∧ (1 : Nat) = 0 then (999 : Int32) else if (13 + j = 7 ∨ 13 + j = 9) ∧ ((1 : Nat) = 0 ∨ (1 : Nat) = 1) then 1 else if (13 + j = 1 ∨ 13 + j = 2) ∧ (1 : Nat) = 7 then 1 else 0) = nI 0
    rw [if_neg (by omega), if_neg (by omega), if_neg (by omega)]
    rfl
  · show (if (17 : Nat) = 17 ∧ (19 : Nat) = 0 ∧ j = 2 then (1 : Int32) else 0) = nI 0
    rw [if_neg (by omega)]
    rfl
  · show (0 : Int32) = if (17 : Nat) = 17 ∧ (20 : Nat) = 0 ∧ 24 * j + i = 2 then 1 else 0
    rw [if_neg (by omega)]
