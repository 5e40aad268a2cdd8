/-! LAWS: a text is a row of steps; both sides work it out alike. -/
def vt (t : Int32) : Prop := (0 ≤ t.toInt ∧ t.toInt < 10000) ∨ t = 10000 ∨ t = 10001 ∨ t = 10002 ∨ t = 20033 ∨ ∃ s, isSign s ∧ t = 20000 + s
def vl (a b c t : Int32) : Int32 := if t < 10000 then t else if t = 10000 then a else if t = 10001 then b else c
def evA (a b c : Int32) : List Int32 → (Nat → Int32) → Nat → (Nat → Int32) × Nat
  | [], p, n => (p, n)
  | t :: r, p, n => if t < 20000 then evA a b c r (upd p n (vl a b c t)) (n + 1) else if t = 20033 then evA a b c r (upd p (n - 1) (if p (n - 1) = 0 then 1 else 0)) n else evA a b c r (upd p (n - 2) (jn (t - 20000) (p (n - 2)) (p (n - 1)))) (n - 1)
def dpk : List Int32 → Nat → Prop
  | [], n => n = 1
  | t :: r, n => vt t ∧ (if t < 20000 then dpk r (n + 1) else if t = 20033 then 1 ≤ n ∧ dpk r n else 2 ≤ n ∧ dpk r (n - 1))
def hld (m v : Int32) : Int32 := if 0 ≤ v then (if v ≤ m then v else m) else 0
def mmx (m v : Int32) : Int32 := if (0 : Int32) < (if v < m then v else m) then (if v < m then v else m) else 0
theorem mmx_hld {m v : Int32} (hm : 0 ≤ m.toInt) : mmx m v = hld m v := by
  unfold mmx hld
  simp only [Int32.lt_iff_toInt_lt, Int32.le_iff_toInt_le, Int32.toInt_zero]
  by_cases h1 : v.toInt < m.toInt
  · simp only [h1, if_true]
    by_cases h2 : 0 < v.toInt
    · rw [if_pos h2, if_pos (by omega), if_pos (by omega)]
    · rw [if_neg h2]
      by_cases h3 : 0 ≤ v.toInt
      · rw [if_pos h3, if_pos (by omega)]
        exact (Int32.toInt_inj.mp (by rw [Int32.toInt_zero]; omega)).symm
      · rw [if_neg h3]
  · simp only [h1, if_false]
    by_cases h2 : 0 < m.toInt
    · rw [if_pos h2, if_pos (by omega)]
      by_cases h4 : v.toInt ≤ m.toInt
      · rw [if_pos h4]
        exact Int32.toInt_inj.mp (by omega)
      · rw [if_neg h4]
    · rw [if_neg h2, if_pos (by omega)]
      by_cases h4 : v.toInt ≤ m.toInt
      · rw [if_pos h4]
        exact Int32.toInt_inj.mp (by rw [Int32.toInt_zero]; omega)
      · rw [if_neg h4]
        exact Int32.toInt_inj.mp (by rw [Int32.toInt_zero]; omega)
theorem vt_op {t : Int32} (h : vt t) (h2 : ¬ t < 20000) (h3 : ¬ t = 20033) : isSign (t - 20000) ∧ ¬ t ≤ 20000 := by
  rcases h with h | rfl | rfl | rfl | rfl | ⟨s, hs, rfl⟩
  · exact absurd (Int32.lt_iff_toInt_lt.mpr (by rw [show (20000 : Int32).toInt = 20000 by decide]; omega)) h2
  · exact absurd (by decide) h2
  · exact absurd (by decide) h2
  · exact absurd (by decide) h2
  · exact absurd rfl h3
  · rcases hs with rfl | rfl | rfl | rfl | rfl | rfl | rfl | rfl | rfl | rfl <;> exact ⟨by unfold isSign; decide, by decide⟩
theorem drop_cons {α : Type} {ts r : List α} {t : α} {i : Nat} (h : ts.drop i = t :: r) : ts[i]? = some t ∧ ts.drop (i + 1) = r := by
  constructor
  · have := congrArg (fun l => l[0]?) h
    simpa using this
  · have := congrArg (fun l => l.drop 1) h
    simpa using this
theorem gives_loop {o : Nat} {ts : List Int32} {a b c : Int32} {Q : Int32 → St → Prop} (hl : ts.length ≤ 60) : ∀ (r : List Int32) (i n : Nat) (S : St), ts.drop i = r → i + r.length = ts.length → S.1 o 4 = nI ts.length → (∀ (j : Nat) (t : Int32), ts[j]? = some t → S.2 o 2 j = t) → dpk r n → n ≤ i → Q (mmx (S.1 o 0) ((evA a b c r (S.2 o 3) n).1 0)) (stR S o 3 (evA a b c r (S.2 o 3) n).1) → ∃ k, L_X1_gives_18 o Q k a b c (nI n) (nI i) S := by
  intro r
  induction r with
  | nil =>
    intro i n S hd hi h4 hrow hk hn hQ
    refine ⟨1, ?_⟩
    unfold L_X1_gives_18
    have e : i = ts.length := by simpa using hi
    rw [h4, e, if_pos (nI_le (Nat.le_refl _) (by omega))]
    rw [show (evA a b c [] (S.2 o 3) n).1 = S.2 o 3 from rfl, st_self] at hQ
    exact ⟨vp_in_nI (n := 0) (by decide) (by decide), hQ⟩
  | cons t r ih =>
    intro i n S hd hi h4 hrow hk hn hQ
    obtain ⟨hti, hdr⟩ := drop_cons hd
    have hi1 : i < ts.length := by simp at hi; omega
    have hi2 : i + 1 + r.length = ts.length := by simp at hi; omega
    have hn60 : n < 60 := by omega
    obtain ⟨hv, hk⟩ := hk
    have go : ∀ (n' : Nat) (p : Nat → Int32), n' ≤ i + 1 → dpk r n' → evA a b c (t :: r) (S.2 o 3) n = evA a b c r p n' → ∃ k, L_X1_gives_18 o Q k a b c (nI n') (nI (i + 1)) (stR S o 3 p) := by
      intro n' p h1 h2 h3
      refine ih (i + 1) n' (stR S o 3 p) hdr hi2 h4 (fun j u hj => ?_) h2 h1 ?_
      · rw [st_ne (by omega)]
        exact hrow j u hj
      · rw [st_same, st_st, ← h3]
        exact hQ
    have hrw : S.2 o 2 (nI i).toNatClampNeg = t := by rw [nI_clamp (by omega)]; exact hrow i t hti
    have hvi : vp_in (nI i) 60 := vp_in_nI (by omega) (by omega)
    by_cases h2 : t < 20000
    · rw [if_pos h2] at hk
      obtain ⟨k, hk9⟩ := go (n + 1) (upd (S.2 o 3) n (vl a b c t)) (by omega) hk (by simp only [evA, if_pos h2])
      refine ⟨k + 1, ?_⟩
      unfold L_X1_gives_18
      rw [h4, if_neg (nI_ge hi1 (by omega))]
      refine ⟨hvi, ?_⟩
      simp only [nmI]
      rw [hrw, if_neg (Int32.not_le.mpr h2), if_neg (show ¬ (60 : Int32) ≤ nI n from nI_ge (a := n) (b := 60) hn60 (by decide))]
      have key : ∀ u : Int32, vl a b c t = u → J_X1_gives_95 o (L_X1_gives_18 o Q k) Q a b c (nI n) (nI i) u (nI n) S := by
        intro u hu
        show vp_in (nI n) 60 ∧ L_X1_gives_18 o Q k a b c (nI n + 1) (nI i + 1) (stR S o 3 (upd (S.2 o 3) (nI n).toNatClampNeg u))
        rw [nI_1, nI_1, nI_clamp (by omega), ← hu]
        exact ⟨vp_in_nI hn60 (by omega), hk9⟩
      by_cases h3 : 10000 ≤ t
      · rw [if_pos h3]
        have h5 : ¬ t < 10000 := Int32.not_lt.mpr h3
        by_cases h6 : t = 10000
        · rw [if_pos h6]
          exact key _ (by unfold vl; rw [if_neg h5, if_pos h6])
        · rw [if_neg h6]
          by_cases h7 : t = 10001
          · rw [if_pos h7]
            exact key _ (by unfold vl; rw [if_neg h5, if_neg h6, if_pos h7])
          · rw [if_neg h7]
            exact key _ (by unfold vl; rw [if_neg h5, if_neg h6, if_neg h7])
      · rw [if_neg h3]
        exact key _ (by unfold vl; rw [if_pos (Int32.not_le.mp h3)])
    · rw [if_neg h2] at hk
      by_cases h3 : t = 20033
      · rw [if_pos h3] at hk
        obtain ⟨k, hk9⟩ := go n (upd (S.2 o 3) (n - 1) (if S.2 o 3 (n - 1) = 0 then 1 else 0)) (by omega) hk.2 (by simp only [evA, if_neg h2, if_pos h3])
        refine ⟨k + 1, ?_⟩
        unfold L_X1_gives_18
        rw [h4, if_neg (nI_ge hi1 (by omega))]
        refine ⟨hvi, ?_⟩
        simp only [nmI]
        rw [hrw, if_pos (Int32.not_lt.mp h2)]
        unfold J_X1_gives_102
        rw [if_pos h3, if_neg (show ¬ nI n < 1 from nI_nlt (a := n) (b := 1) hk.1 (by omega))]
        have e1 : nI n - 1 = nI (n - 1) := pk_sub (a := n) (b := 1) hk.1
        rw [e1, nI_clamp (by omega)]
        have hv1 : vp_in (nI (n - 1)) 60 := vp_in_nI (by omega) (by omega)
        refine ⟨hv1, ?_⟩
        by_cases h5 : S.2 o 3 (n - 1) = 0
        · rw [if_pos h5]
          rw [if_pos h5] at hk9
          show _ ∧ L_X1_gives_18 o Q k a b c (nI n) (nI i + 1) (stR S o 3 (upd (S.2 o 3) (n - 1) 1))
          rw [nI_1]
          exact ⟨hv1, hk9⟩
        · rw [if_neg h5]
          rw [if_neg h5] at hk9
          show _ ∧ L_X1_gives_18 o Q k a b c (nI n) (nI i + 1) (stR S o 3 (upd (S.2 o 3) (n - 1) 0))
          rw [nI_1]
          exact ⟨hv1, hk9⟩
      · rw [if_neg h3] at hk
        obtain ⟨k, hk9⟩ := go (n - 1) (upd (S.2 o 3) (n - 2) (jn (t - 20000) (S.2 o 3 (n - 2)) (S.2 o 3 (n - 1)))) (by omega) hk.2 (by simp only [evA, if_neg h2, if_neg h3])
        refine ⟨k + 1, ?_⟩
        unfold L_X1_gives_18
        rw [h4, if_neg (nI_ge hi1 (by omega))]
        refine ⟨hvi, ?_⟩
        simp only [nmI]
        rw [hrw, if_pos (Int32.not_lt.mp h2)]
        unfold J_X1_gives_102
        rw [if_neg h3]
        unfold J_X1_gives_145
        rw [if_neg (vt_op hv h2 h3).2, if_neg (show ¬ nI n < 2 from nI_nlt (a := n) (b := 2) hk.1 (by omega))]
        simp only [nmI, nmS]
        have e0 : nI n + (-1) = nI (n - 1) := by
          have := pk_m1 (n - 1)
          rwa [show n - 1 + 1 = n by omega] at this
        have e1 : nI (n - 1) - 1 = nI (n - 2) := by
          have := pk_sub (a := n - 1) (b := 1) (by omega)
          rwa [show n - 1 - 1 = n - 2 by omega] at this
        rw [e0, e1, nI_clamp (by omega), nI_clamp (by omega)]
        have hv1 : vp_in (nI (n - 1)) 60 := vp_in_nI (by omega) (by omega)
        have hv2 : vp_in (nI (n - 2)) 60 := vp_in_nI (by omega) (by omega)
        refine ⟨hv2, hv1, e_X1_joined _ _ _ _ _ ⟨hv2, ?_⟩⟩
        show L_X1_gives_18 o Q k a b c (nI (n - 1)) (nI i + 1) _
        rw [nI_1]
        exact hk9
/-- what does not stand below the pile's top does not count -/
theorem evA_congr {a b c : Int32} : ∀ (r : List Int32) (p q : Nat → Int32) (n : Nat), dpk r n → (∀ j, j < n → p j = q j) → (evA a b c r p n).1 0 = (evA a b c r q n).1 0 := by
  intro r
  induction r with
  | nil =>
    intro p q n hk h
    have e : n = 1 := hk
    exact h 0 (by omega)
  | cons t r ih =>
    intro p q n hk h
    obtain ⟨-, hk⟩ := hk
    simp only [evA]
    by_cases h2 : t < 20000
    · rw [if_pos h2] at hk
      rw [if_pos h2, if_pos h2]
      refine ih _ _ _ hk (fun j hj => ?_)
      unfold upd
      by_cases hjn : j = n
      · rw [if_pos hjn, if_pos hjn]
      · rw [if_neg hjn, if_neg hjn]
        exact h j (by omega)
    · rw [if_neg h2] at hk
      rw [if_neg h2, if_neg h2]
      by_cases h3 : t = 20033
      · rw [if_pos h3] at hk
        rw [if_pos h3, if_pos h3]
        refine ih _ _ _ hk.2 (fun j hj => ?_)
        unfold upd
        rw [h (n - 1) (by omega)]
        by_cases hjn : j = n - 1
        · rw [if_pos hjn, if_pos hjn]
        · rw [if_neg hjn, if_neg hjn]
          exact h j hj
      · rw [if_neg h3] at hk
        rw [if_neg h3, if_neg h3]
        refine ih _ _ _ hk.2 (fun j hj => ?_)
        unfold upd
        rw [h (n - 1) (by omega), h (n - 2) (by omega)]
        by_cases hjn : j = n - 2
        · rw [if_pos hjn, if_pos hjn]
        · rw [if_neg hjn, if_neg hjn]
          exact h j (by omega)
