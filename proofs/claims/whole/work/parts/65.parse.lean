/-! TEXTS: how one is read, and what is known of the reading -/
abbrev PR : Type := Bool × Nat × List Int32
def nxb (b : Nat → Int32) (N p : Nat) : Int32 := if N ≤ p then -1 else b p
def digB (v : Int32) : Bool := !decide (v < 48) && !decide (57 < v)
def nmi (u : Nat) (v : Int32) : Nat := if sNAM (3 * u) = v then 0 else if sNAM (3 * u + 1) = v then 1 else if sNAM (3 * u + 2) = v then 2 else 3
def nuN (b : Nat → Int32) (N : Nat) : Nat → Int32 → Nat → Int32 × Nat
  | 0, x, p => (x, p)
  | n + 1, x, p => if digB (nxb b N p) = true then nuN b N n (((x * 10) + nxb b N p) - 48) (p + 1) else (x, p)
def sgn (l : Nat) (v : Int32) : Bool := if l = 0 then decide (v = 124) else if l = 1 then decide (v = 38) else if l = 2 then decide (v = 60 ∨ v = 61 ∨ v = 62) else if l = 3 then decide (v = 43 ∨ v = 45) else decide (v = 42 ∨ v = 47 ∨ v = 37)
def loopP (b : Nat → Int32) (N l : Nat) (q : Nat → List Int32 → PR) : Nat → Nat → List Int32 → PR
  | 0, p, ts => (true, p, ts)
  | n + 1, p, ts => if sgn l (nxb b N p) = true then (if (q (p + 1) ts).1 = true then loopP b N l q n (q (p + 1) ts).2.1 ((q (p + 1) ts).2.2 ++ [20000 + nxb b N p]) else q (p + 1) ts) else (true, p, ts)
def levP (b : Nat → Int32) (N l n : Nat) (q : Nat → List Int32 → PR) (p : Nat) (ts : List Int32) : PR := if (q p ts).1 = true then loopP b N l q n (q p ts).2.1 (q p ts).2.2 else q p ts
def lvP (b : Nat → Int32) (N : Nat) (q : Nat → List Int32 → PR) : Nat → Nat → List Int32 → PR
  | 0 => q
  | j + 1 => levP b N (4 - j) (if j = 2 then 1 else 60) (lvP b N q j)
def PQb (b : Nat → Int32) (N u k : Nat) (q : Nat → List Int32 → PR) (p : Nat) (ts : List Int32) : PR :=
  if digB (nxb b N p) = true then (true, (nuN b N 4 0 p).2, ts ++ [(nuN b N 4 0 p).1])
  else if nmi u (nxb b N p) < 3 then (true, p + 1, ts ++ [10000 + nI (nmi u (nxb b N p))])
  else if k = 0 then (false, p, ts)
  else if nxb b N p = 33 then (if (q (p + 1) ts).1 = true then (true, (q (p + 1) ts).2.1, (q (p + 1) ts).2.2 ++ [20033]) else q (p + 1) ts)
  else if nxb b N p = 40 then (if (lvP b N q 5 (p + 1) ts).1 = true then (if nxb b N (lvP b N q 5 (p + 1) ts).2.1 = 41 then (true, (lvP b N q 5 (p + 1) ts).2.1 + 1, (lvP b N q 5 (p + 1) ts).2.2) else (false, (lvP b N q 5 (p + 1) ts).2.1, (lvP b N q 5 (p + 1) ts).2.2)) else lvP b N q 5 (p + 1) ts)
  else (false, p, ts)
def PQ (b : Nat → Int32) (N u : Nat) : Nat → Nat → List Int32 → PR
  | 0 => PQb b N u 0 (fun p ts => (false, p, ts))
  | k + 1 => PQb b N u (k + 1) (PQ b N u k)
/-- steps that leave one more on the pile -/
def cod (e : List Int32) : Prop := ∀ (rest : List Int32) (n : Nat), dpk rest (n + 1) → dpk (e ++ rest) n
def okP (N : Nat) (f : Nat → List Int32 → PR) : Prop := ∀ p ts, p ≤ N → p ≤ (f p ts).2.1 ∧ (f p ts).2.1 ≤ N ∧ ((f p ts).1 = true → p < (f p ts).2.1 ∧ ∃ e : List Int32, (f p ts).2.2 = ts ++ e ∧ e.length + p ≤ (f p ts).2.1 ∧ cod e)
theorem nxb_lt {b : Nat → Int32} {N p : Nat} {v : Int32} (h : nxb b N p = v) (hv : ¬ v = -1) : p < N := by
  unfold nxb at h
  by_cases q : N ≤ p
  · rw [if_pos q] at h; exact absurd h.symm hv
  · omega
theorem sgn_ne {l : Nat} {v : Int32} (h : sgn l v = true) : isSign v ∧ ¬ v = -1 := by
  unfold sgn at h
  have : v = 124 ∨ v = 38 ∨ v = 60 ∨ v = 61 ∨ v = 62 ∨ v = 43 ∨ v = 45 ∨ v = 42 ∨ v = 47 ∨ v = 37 := by
    by_cases h0 : l = 0
    · rw [if_pos h0] at h; have := of_decide_eq_true h; simp [this]
    rw [if_neg h0] at h
    by_cases h1 : l = 1
    · rw [if_pos h1] at h; have := of_decide_eq_true h; simp [this]
    rw [if_neg h1] at h
    by_cases h2 : l = 2
    · rw [if_pos h2] at h; rcases of_decide_eq_true h with e | e | e <;> simp [e]
    rw [if_neg h2] at h
    by_cases h3 : l = 3
    · rw [if_pos h3] at h; rcases of_decide_eq_true h with e | e <;> simp [e]
    rw [if_neg h3] at h
    rcases of_decide_eq_true h with e | e | e <;> simp [e]
  unfold isSign
  rcases this with rfl | rfl | rfl | rfl | rfl | rfl | rfl | rfl | rfl | rfl <;> exact ⟨by simp, by decide⟩
theorem sgn_big {s : Int32} (h : isSign s) : ¬ 20000 + s < 20000 ∧ ¬ 20000 + s = 20033 := by
  rcases h with rfl | rfl | rfl | rfl | rfl | rfl | rfl | rfl | rfl | rfl <;> decide
theorem cod_join {e f : List Int32} {s : Int32} (he : cod e) (hf : cod f) (hs : isSign s) : cod (e ++ (f ++ [20000 + s])) := by
  intro rest n h
  rw [List.append_assoc, List.append_assoc]
  refine he _ n (hf _ (n + 1) ?_)
  show vt (20000 + s) ∧ _
  rw [if_neg (sgn_big hs).1, if_neg (sgn_big hs).2]
  exact ⟨Or.inr (Or.inr (Or.inr (Or.inr (Or.inr ⟨s, hs, rfl⟩)))), by omega, h⟩
theorem cod_one {t : Int32} (h : vt t) (h2 : t < 20000) : cod [t] := by
  intro rest n hr
  show vt t ∧ _
  rw [if_pos h2]
  exact ⟨h, hr⟩
theorem cod_not {e : List Int32} (he : cod e) : cod (e ++ [20033]) := by
  intro rest n h
  rw [List.append_assoc]
  refine he _ n ?_
  show vt 20033 ∧ _
  rw [if_neg (by decide), if_pos rfl]
  exact ⟨Or.inr (Or.inr (Or.inr (Or.inr (Or.inl rfl)))), by omega, h⟩
theorem loopP_ok {b : Nat → Int32} {N l : Nat} {q : Nat → List Int32 → PR} (hq : okP N q) : ∀ (n p : Nat) (ts e0 : List Int32) (p0 : Nat), p ≤ N → p0 < p → e0.length + p0 ≤ p → cod e0 → p ≤ (loopP b N l q n p (ts ++ e0)).2.1 ∧ (loopP b N l q n p (ts ++ e0)).2.1 ≤ N ∧ ((loopP b N l q n p (ts ++ e0)).1 = true → ∃ e : List Int32, (loopP b N l q n p (ts ++ e0)).2.2 = ts ++ e ∧ e.length + p0 ≤ (loopP b N l q n p (ts ++ e0)).2.1 ∧ cod e) := by
  intro n
  induction n with
  | zero => intro p ts e0 p0 h1 h2 h3 h4; exact ⟨Nat.le_refl _, h1, fun _ => ⟨e0, rfl, h3, h4⟩⟩
  | succ n ih =>
    intro p ts e0 p0 h1 h2 h3 h4
    rw [loopP]
    by_cases hs : sgn l (nxb b N p) = true
    · rw [if_pos hs]
      have hlt := nxb_lt rfl (sgn_ne hs).2
      obtain ⟨a1, a2, a3⟩ := hq (p + 1) (ts ++ e0) (by omega)
      by_cases ho : (q (p + 1) (ts ++ e0)).1 = true
      · rw [if_pos ho]
        obtain ⟨a4, f, a5, a6, a7⟩ := a3 ho
        have hl : (e0 ++ (f ++ [20000 + nxb b N p])).length + p0 ≤ (q (p + 1) (ts ++ e0)).2.1 := by
          rw [List.length_append, List.length_append, List.length_singleton]; omega
        have := ih (q (p + 1) (ts ++ e0)).2.1 ts (e0 ++ (f ++ [20000 + nxb b N p])) p0 a2 (by omega) hl (cod_join h4 a7 (sgn_ne hs).1)
        rw [a5, List.append_assoc, List.append_assoc]
        obtain ⟨c1, c2, c3⟩ := this
        exact ⟨by omega, c2, c3⟩
      · rw [if_neg ho]
        exact ⟨by omega, a2, fun x => absurd x ho⟩
    · rw [if_neg hs]
      exact ⟨Nat.le_refl _, h1, fun _ => ⟨e0, rfl, h3, h4⟩⟩
theorem levP_ok {b : Nat → Int32} {N l n : Nat} {q : Nat → List Int32 → PR} (hq : okP N q) : okP N (levP b N l n q) := by
  intro p ts hp
  unfold levP
  obtain ⟨a1, a2, a3⟩ := hq p ts hp
  by_cases ho : (q p ts).1 = true
  · rw [if_pos ho]
    obtain ⟨a4, f, a5, a6, a7⟩ := a3 ho
    rw [a5]
    obtain ⟨c1, c2, c3⟩ := loopP_ok (b := b) (l := l) hq n (q p ts).2.1 ts f p a2 a4 a6 a7
    exact ⟨by omega, c2, fun x => ⟨by omega, c3 x⟩⟩
  · rw [if_neg ho]
    exact ⟨a1, a2, a3⟩
theorem lvP_ok {b : Nat → Int32} {N : Nat} {q : Nat → List Int32 → PR} (hq : okP N q) : ∀ j, okP N (lvP b N q j) := by
  intro j
  induction j with
  | zero => exact hq
  | succ j ih => exact levP_ok ih
theorem dig_v {v : Int32} (h : digB v = true) : ∃ d, d < 10 ∧ v = nI (48 + d) := by
  unfold digB at h
  simp only [Bool.and_eq_true, Bool.not_eq_true', decide_eq_false_iff_not] at h
  obtain ⟨h1, h2⟩ := h
  obtain ⟨n, hn, e⟩ := nI_of2 (x := v) (M := 57) (n := 57) (by decide) (fun q => h1 (Int32.lt_iff_toInt_lt.mpr (by have := Int32.lt_iff_toInt_lt.mp q; rw [Int32.toInt_zero] at this; rw [show (48 : Int32).toInt = 48 by decide]; omega))) (Int32.not_lt.mp h2)
  have : 48 ≤ n := Nat.le_of_not_lt (fun q => h1 (by rw [e]; exact nI_lt (b := 48) q (by decide)))
  exact ⟨n - 48, by omega, by rw [e, show 48 + (n - 48) = n by omega]⟩
theorem nuN_ok {b : Nat → Int32} {N : Nat} : ∀ (n : Nat) (x p m : Nat), p ≤ N → x < 10 ^ m → m + n = 4 → p ≤ (nuN b N n (nI x) p).2 ∧ (nuN b N n (nI x) p).2 ≤ N ∧ ∃ y, y < 10000 ∧ (nuN b N n (nI x) p).1 = nI y := by
  intro n
  induction n with
  | zero =>
    intro x p m hp hx hm
    have : m = 4 := by omega
    subst this
    exact ⟨Nat.le_refl _, hp, x, hx, rfl⟩
  | succ n ih =>
    intro x p m hp hx hm
    rw [nuN]
    by_cases h : digB (nxb b N p) = true
    · rw [if_pos h]
      obtain ⟨d, hd, e⟩ := dig_v h
      have hlt : p < N := nxb_lt e (by
        have : ∀ d, d < 10 → ¬ nI (48 + d) = -1 := by decide
        exact this d hd)
      have ex : ((nI x * 10) + nxb b N p) - 48 = nI (x * 10 + d) := by
        rw [e, show (10 : Int32) = nI 10 from rfl, pk_mul, nI_add, show (48 : Int32) = nI 48 from rfl, pk_sub (by omega)]
        congr 1
        omega
      rw [ex]
      obtain ⟨a1, a2, a3⟩ := ih (x * 10 + d) (p + 1) (m + 1) (by omega) (by rw [Nat.pow_succ]; omega) (by omega)
      exact ⟨by omega, a2, a3⟩
    · rw [if_neg h]
      have : 10 ^ m ≤ 10 ^ 4 := Nat.pow_le_pow_right (by decide) (by omega)
      exact ⟨Nat.le_refl _, hp, x, by omega, rfl⟩
theorem nuN_1 {b : Nat → Int32} {N p : Nat} (h : digB (nxb b N p) = true) (hp : p ≤ N) : p < (nuN b N 4 0 p).2 ∧ (nuN b N 4 0 p).2 ≤ N ∧ ∃ y, y < 10000 ∧ (nuN b N 4 0 p).1 = nI y := by
  rw [nuN, if_pos h]
  obtain ⟨d, hd, e⟩ := dig_v h
  have hlt : p < N := nxb_lt e (by
    have : ∀ d, d < 10 → ¬ nI (48 + d) = -1 := by decide
    exact this d hd)
  have ex : (((0 : Int32) * 10) + nxb b N p) - 48 = nI d := by
    rw [e, show ((0 : Int32) * 10) = nI 0 by decide, nI_add, show (48 : Int32) = nI 48 from rfl, pk_sub (by omega)]
    congr 1
    omega
  rw [ex]
  obtain ⟨a1, a2, a3⟩ := nuN_ok (b := b) (N := N) 3 d (p + 1) 1 (by omega) (by omega) (by decide)
  exact ⟨by omega, a2, a3⟩
theorem nmi_lt {u : Nat} {v : Int32} (h : nmi u v < 3) (hu : u < 2) : ¬ v = -1 := by
  intro e
  subst e
  rcases (show u = 0 ∨ u = 1 by omega) with rfl | rfl <;> revert h <;> decide
theorem PQb_ok {b : Nat → Int32} {N u k : Nat} {q : Nat → List Int32 → PR} (hu : u < 2) (hq : k ≠ 0 → okP N q) : okP N (PQb b N u k q) := by
  intro p ts hp
  unfold PQb
  by_cases hd : digB (nxb b N p) = true
  · rw [if_pos hd]
    obtain ⟨a1, a2, y, hy, e⟩ := nuN_1 hd hp
    refine ⟨by show p ≤ (nuN b N 4 0 p).2; omega, a2, fun _ => ⟨a1, [(nuN b N 4 0 p).1], rfl, by show 1 + p ≤ (nuN b N 4 0 p).2; omega, ?_⟩⟩
    rw [e]
    exact cod_one (Or.inl (by rw [nI_toInt (by omega)]; omega)) (nI_lt (b := 20000) (by omega) (by decide))
  rw [if_neg hd]
  by_cases hn : nmi u (nxb b N p) < 3
  · rw [if_pos hn]
    have hlt : p < N := nxb_lt rfl (nmi_lt hn hu)
    refine ⟨by show p ≤ p + 1; omega, by show p + 1 ≤ N; omega, fun _ => ⟨by show p < p + 1; omega, _, rfl, by show 1 + p ≤ p + 1; omega, ?_⟩⟩
    rcases (show nmi u (nxb b N p) = 0 ∨ nmi u (nxb b N p) = 1 ∨ nmi u (nxb b N p) = 2 by omega) with e | e | e <;> rw [e]
    · exact cod_one (Or.inr (Or.inl (by decide))) (by decide)
    · exact cod_one (Or.inr (Or.inr (Or.inl (by decide)))) (by decide)
    · exact cod_one (Or.inr (Or.inr (Or.inr (Or.inl (by decide))))) (by decide)
  rw [if_neg hn]
  by_cases hk : k = 0
  · rw [if_pos hk]; exact ⟨Nat.le_refl _, hp, fun x => absurd x Bool.false_ne_true⟩
  rw [if_neg hk]
  have hq := hq hk
  by_cases h33 : nxb b N p = 33
  · rw [if_pos h33]
    have hlt : p < N := nxb_lt h33 (by decide)
    obtain ⟨a1, a2, a3⟩ := hq (p + 1) ts (by omega)
    by_cases ho : (q (p + 1) ts).1 = true
    · rw [if_pos ho]
      obtain ⟨a4, f, a5, a6, a7⟩ := a3 ho
      refine ⟨by show p ≤ (q (p + 1) ts).2.1; omega, a2, fun _ => ⟨by show p < (q (p + 1) ts).2.1; omega, f ++ [20033], ?_, ?_, cod_not a7⟩⟩
      · show (q (p + 1) ts).2.2 ++ [20033] = _
        rw [a5, List.append_assoc]
      · show (f ++ [20033]).length + p ≤ (q (p + 1) ts).2.1
        rw [List.length_append, List.length_singleton]; omega
    · rw [if_neg ho]
      exact ⟨by omega, a2, fun x => absurd x ho⟩
  rw [if_neg h33]
  by_cases h40 : nxb b N p = 40
  · rw [if_pos h40]
    have hlt : p < N := nxb_lt h40 (by decide)
    obtain ⟨a1, a2, a3⟩ := lvP_ok (b := b) hq 5 (p + 1) ts (by omega)
    by_cases ho : (lvP b N q 5 (p + 1) ts).1 = true
    · rw [if_pos ho]
      obtain ⟨a4, f, a5, a6, a7⟩ := a3 ho
      by_cases h41 : nxb b N (lvP b N q 5 (p + 1) ts).2.1 = 41
      · rw [if_pos h41]
        have hl2 := nxb_lt h41 (by decide)
        exact ⟨by show p ≤ (lvP b N q 5 (p + 1) ts).2.1 + 1; omega, by show (lvP b N q 5 (p + 1) ts).2.1 + 1 ≤ N; omega, fun _ => ⟨by show p < (lvP b N q 5 (p + 1) ts).2.1 + 1; omega, f, a5, by show f.length + p ≤ (lvP b N q 5 (p + 1) ts).2.1 + 1; omega, a7⟩⟩
      · rw [if_neg h41]
        exact ⟨by show p ≤ (lvP b N q 5 (p + 1) ts).2.1; omega, a2, fun x => absurd x Bool.false_ne_true⟩
    · rw [if_neg ho]
      exact ⟨by omega, a2, fun x => absurd x ho⟩
  rw [if_neg h40]
  exact ⟨Nat.le_refl _, hp, fun x => absurd x Bool.false_ne_true⟩
theorem PQ_ok {b : Nat → Int32} {N u : Nat} (hu : u < 2) : ∀ k, okP N (PQ b N u k) := by
  intro k
  induction k with
  | zero => exact PQb_ok hu (fun x => absurd rfl x)
  | succ k ih => exact PQb_ok hu (fun _ => ih)
