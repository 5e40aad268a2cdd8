/-! PURE ROWS: what the meanings E_ answer. -/
theorem nn_lit {x : Int32} {n : Nat} (h : x = nI n) (hn : n < 2 ^ 31) : x.toNatClampNeg = n := by rw [h]; exact nI_clamp hn
theorem st_same {S : St} {o k : Nat} {f : Nat → Int32} : (stR S o k f).2 o k = f := by simp [stR]
theorem st_ne {S : St} {o k o' k' : Nat} {f : Nat → Int32} (h : ¬ (o' = o ∧ k' = k)) : (stR S o k f).2 o' k' = S.2 o' k' := by simp only [stR, if_neg h]
theorem st_int {S : St} {o k o' k' : Nat} {f : Nat → Int32} : (stR S o k f).1 o' k' = S.1 o' k' := rfl
theorem sI_same {S : St} {o k : Nat} {v : Int32} : (stI S o k v).1 o k = v := by simp [stI]
theorem sI_ne {S : St} {o k o' k' : Nat} {v : Int32} (h : ¬ (o' = o ∧ k' = k)) : (stI S o k v).1 o' k' = S.1 o' k' := by simp only [stI, if_neg h]
theorem sI_row {S : St} {o k o' k' : Nat} {v : Int32} : (stI S o k v).2 o' k' = S.2 o' k' := rfl
theorem st_st {S : St} {o k : Nat} {f g : Nat → Int32} : stR (stR S o k f) o k g = stR S o k g := by
  refine Prod.ext rfl ?_
  funext a b
  simp only [stR]
  by_cases h : a = o ∧ b = k <;> simp [h]
theorem st_self {S : St} {o k : Nat} : stR S o k (S.2 o k) = S := by
  refine Prod.ext rfl ?_
  funext a b
  simp only [stR]
  by_cases h : a = o ∧ b = k
  · rw [if_pos h, h.1, h.2]
  · rw [if_neg h]
theorem ii_add {x y : Int32} {a b : Int} (hx : x.toInt = a) (hy : y.toInt = b) (h1 : -2 ^ 31 ≤ a + b) (h2 : a + b < 2 ^ 31) : (x + y).toInt = a + b := by
  rw [Jvm.Kit.i32_add (by rw [hx, hy]; exact h1) (by rw [hx, hy]; exact h2), hx, hy]
/-- a text's sign upon two numbers -/
def jn (s x y : Int32) : Int32 := if s = 37 then (if y = 0 then 0 else x - x / y * y) else if s = 38 then (if x = 0 then 0 else if y = 0 then 0 else 1) else if s = 42 then x * y else if s = 43 then x + y else if s = 45 then x - y else if s = 47 then (if y = 0 then 0 else x / y) else if s = 60 then (if y ≤ x then 0 else 1) else if s = 61 then (if x = y then 1 else 0) else if s = 62 then (if x ≤ y then 0 else 1) else if s = 124 then (if x = 0 then (if y = 0 then 0 else 1) else 1) else 0
def isSign (s : Int32) : Prop := s = 37 ∨ s = 38 ∨ s = 42 ∨ s = 43 ∨ s = 45 ∨ s = 47 ∨ s = 60 ∨ s = 61 ∨ s = 62 ∨ s = 124
theorem e_X1_joined (s x y : Int32) (S : St) (Q : Int32 → St → Prop) (h : Q (jn s x y) S) : E_X1_joined x s y S Q := by
  unfold E_X1_joined
  unfold jn at h
  repeat' split <;> simp_all
theorem div_m1 (x : Int32) : x / (-1) = -x := by
  apply Int32.toInt_inj.mp
  by_cases h : x.toInt = -2 ^ 31
  · have : x = Int32.minValue := Int32.toInt_inj.mp (by rw [h]; decide)
    subst this
    decide +kernel
  · rw [Jvm.Kit.i32_div (fun q => h q.1), Jvm.Kit.i32_neg h, show (-1 : Int32).toInt = -1 by decide, Int.tdiv_neg, Int.tdiv_one]
theorem rem_m1 (x : Int32) : x - x / (-1) * (-1) = 0 := by
  rw [div_m1]
  apply Int32.toInt_inj.mp
  simp [Int32.neg_mul, Int32.mul_neg]
theorem rem_m2 (x : Int32) : x - -x * (-1) = 0 := by rw [← div_m1]; exact rem_m1 x
theorem e_X7_joined (s x y : Int32) (S : St) (Q : Int32 → St → Prop) (hs : isSign s) (h : Q (jn s x y) S) : E_X7_joined s x y S Q := by
  unfold E_X7_joined
  unfold jn at h
  by_cases hy : y = -1
  · subst hy
    rcases hs with rfl | rfl | rfl | rfl | rfl | rfl | rfl | rfl | rfl | rfl <;> simp [div_m1, rem_m2] at h ⊢ <;> (try split) <;> (try split) <;> simp_all
  · rcases hs with rfl | rfl | rfl | rfl | rfl | rfl | rfl | rfl | rfl | rfl <;> simp [hy] at h ⊢ <;> (try split) <;> (try split) <;> simp_all
