/-! PAIRS OF CALLS: move -/
theorem mv_ix {j a i : Nat} : (((24 : Int32) * nI j) + nI a) + nI i = nI (24 * j + a + i) := by rw [show (24 : Int32) = nI 24 from rfl, pk_mul, nI_add, nI_add]
theorem e_move {S : St} {Q : Int32 → St → Prop} {j1 j3 a b n : Nat} (h1 : j1 < 4) (h3 : j3 < 4) (ha : a + n ≤ 24) (hb : b + n ≤ 24) (h : ∀ S1, S1.1 = S.1 → (∀ k, k ≠ 20 → k ≠ 21 → S1.2 17 k = S.2 17 k) → (∀ p, S1.2 17 20 p = if 24 * j3 + b ≤ p ∧ p < 24 * j3 + b + n then S.2 17 20 (24 * j1 + a + (p - (24 * j3 + b))) else S.2 17 20 p) → Q (nI n) S1) : ∃ k, L_X7_move_115 Q k (nI j1) (nI a) (nI j3) (nI b) (nI n) 0 S := by
  have k2 : ∀ (m i : Nat) (f g : Nat → Int32), i + m = n → (∀ q, q < n → g q = S.2 17 20 (24 * j1 + a + q)) → (∀ p, f p = if 24 * j3 + b ≤ p ∧ p < 24 * j3 + b + i then S.2 17 20 (24 * j1 + a + (p - (24 * j3 + b))) else S.2 17 20 p) → L_X7_move_152 Q (m + 1) (nI j3) (nI b) (nI n) (nI i) (stR (stR S 17 21 g) 17 20 f) := by
    intro m
    induction m with
    | zero =>
      intro i f g hi hg hf
      unfold L_X7_move_152
      rw [show i = n by omega, if_pos (nI_le (Nat.le_refl _) (by omega))]
      refine h _ rfl (fun k q q2 => by rw [st_ne (by omega), st_ne (by omega)]) (fun p => ?_)
      rw [st_same, hf p, show i = n by omega]
    | succ m ih =>
      intro i f g hi hg hf
      unfold L_X7_move_152
      rw [if_neg (nI_ge (show i < n by omega) (by omega)), mv_ix, nI_clamp (by omega), nI_clamp (by omega), st_same, st_ne (by omega), st_same]
      refine ⟨vp_in_nI (by omega) (by decide), vp_in_nI (by omega) (by decide), ?_⟩
      simp only [nmS, nmI]
      rw [st_st, nI_1]
      refine ih (i + 1) _ g (by omega) hg (fun p => ?_)
      by_cases q : p = 24 * j3 + b + i
      · rw [q, pk_us, if_pos (by omega), hg i (by omega), show 24 * j3 + b + i - (24 * j3 + b) = i by omega]
      · rw [pk_un q, hf p]
        by_cases w : 24 * j3 + b ≤ p ∧ p < 24 * j3 + b + i
        · rw [if_pos w, if_pos (by omega)]
        · rw [if_neg w, if_neg (by omega)]
  have k1 : ∀ (m i : Nat) (g : Nat → Int32), i + m = n → (∀ q, q < i → g q = S.2 17 20 (24 * j1 + a + q)) → L_X7_move_115 Q (m + 1) (nI j1) (nI a) (nI j3) (nI b) (nI n) (nI i) (stR S 17 21 g) := by
    intro m
    induction m with
    | zero =>
      intro i g hi hg
      unfold L_X7_move_115
      rw [show i = n by omega, if_pos (nI_le (Nat.le_refl _) (by omega))]
      have := k2 n 0 (S.2 17 20) g (by omega) (fun q hq => hg q (by omega)) (fun p => by rw [if_neg (by omega)])
      have e : stR (stR S 17 21 g) 17 20 (S.2 17 20) = stR S 17 21 g := by
        have e2 : S.2 17 20 = (stR S 17 21 g).2 17 20 := (st_ne (by omega)).symm
        rw [e2, st_self]
      rw [e] at this
      exact ⟨n + 1, this⟩
    | succ m ih =>
      intro i g hi hg
      unfold L_X7_move_115
      rw [if_neg (nI_ge (show i < n by omega) (by omega)), mv_ix, nI_clamp (by omega), nI_clamp (by omega), st_same, st_ne (by omega)]
      refine ⟨vp_in_nI (by omega) (by decide), vp_in_nI (by omega) (by decide), ?_⟩
      simp only [nmS, nmI]
      rw [st_st, nI_1]
      refine ih (i + 1) _ (by omega) (fun q hq => ?_)
      by_cases e : q = i
      · rw [e, pk_us]
      · rw [pk_un e]; exact hg q (by omega)
  have := k1 n 0 (S.2 17 21) (by omega) (fun q hq => absurd hq (Nat.not_lt_zero q))
  rw [st_self] at this
  exact ⟨n + 1, this⟩
theorem hold_iff {n : Nat} {x y : Int32} (hn : n ≤ 24) {o : Nat} {S : St} (e : S.1 o 1 = nI n) : (∃ a m : Nat, a + m ≤ n ∧ x = nI a ∧ y = nI m ∧ ∀ Q : Int32 → St → Prop, Q 1 S → E_X3_holds o x y S Q) ∨ ((y < 0 ∨ x < 0 ∨ nI n - y < x) ∧ ∀ Q : Int32 → St → Prop, Q 0 S → E_X3_holds o x y S Q) := by
  unfold E_X3_holds
  rw [e]
  by_cases hy : y < 0
  · exact Or.inr ⟨Or.inl hy, fun Q q => by rw [if_pos hy]; exact q⟩
  by_cases hx : x < 0
  · exact Or.inr ⟨Or.inr (Or.inl hx), fun Q q => by rw [if_neg hy, if_pos hx]; exact q⟩
  obtain ⟨m, hm, rfl⟩ := nI_of hy
  obtain ⟨a, ha, rfl⟩ := nI_of hx
  have tsub : (nI n - nI m).toInt = (n : Int) - m := by
    rw [Jvm.Kit.i32_sub (by rw [nI_toInt (by omega), nI_toInt hm]; omega) (by rw [nI_toInt (by omega), nI_toInt hm]; omega), nI_toInt (by omega), nI_toInt hm]
  by_cases h1 : a + m ≤ n
  · refine Or.inl ⟨a, m, h1, rfl, rfl, fun Q q => ?_⟩
    rw [if_neg hy, if_neg hx, if_neg (nI_nlt (by omega) (by omega)), pk_sub (by omega), if_neg (nI_nlt (by omega) (by omega))]
    exact q
  · refine Or.inr ⟨Or.inr (Or.inr ?_), fun Q q => ?_⟩
    · rw [Int32.lt_iff_toInt_lt, tsub, nI_toInt ha]; omega
    · rw [if_neg hy, if_neg hx]
      by_cases h2 : nI n < nI a
      · rw [if_pos h2]; exact q
      · have : a ≤ n := by
          refine Nat.le_of_not_lt (fun q => h2 (nI_lt q (by omega)))
        rw [if_neg h2, pk_sub this, if_pos (nI_lt (by omega) hm)]
        exact q
theorem f_move {c : Nat} {SC SM : St} (R : Rel c SC SM) (x1 x2 x3 x4 x5 : Int32) : E_X6_move x1 x2 x3 x4 x5 SC (fun r SC1 => E_X7_move x1 x2 x3 x4 x5 SM (RQ c SC1 r)) := by
  have er : ∀ (k : Nat), k < 7 → (∀ Q, E_X7_error (nI k) SM (fun v S1 => Q v S1) → E_X7_move x1 x2 x3 x4 x5 SM Q) → E_X6_wrong (nI k) SC (fun r SC1 => E_X7_move x1 x2 x3 x4 x5 SM (RQ c SC1 r)) := by
    intro k hk h
    refine e_wrong k hk rfl (h _ ?_)
    exact e_error k hk rfl ⟨rfl, (R.err k hk).up⟩
  unfold E_X6_move
  rcases win x1 0 3 with hw | hw
  · refine sh_no hw ?_
    rw [if_pos rfl]
    refine er 1 (by decide) (fun Q h => ?_)
    unfold E_X7_move
    refine ms_no hw ?_
    rw [if_pos rfl]
    exact h
  refine sh_ok hw ?_
  rw [if_neg (by decide)]
  rcases win x3 0 3 with hw3 | hw3
  · refine sh_no hw3 ?_
    rw [if_pos rfl]
    refine er 1 (by decide) (fun Q h => ?_)
    unfold E_X7_move
    refine ms_ok hw ?_
    rw [if_neg (by decide)]
    refine ms_no hw3 ?_
    rw [if_pos rfl]
    exact h
  refine sh_ok hw3 ?_
  rw [if_neg (by decide)]
  obtain ⟨j1, hj1, e1⟩ := win_nI (x := x1) (b := 3) (m := 3) rfl (by decide) hw
  obtain ⟨j3, hj3, e3⟩ := win_nI (x := x3) (b := 3) (m := 3) rfl (by decide) hw3
  have hv1 : vp_in x1 4 := by rw [e1]; exact vp_in_nI (by omega) (by decide)
  have hv3 : vp_in x3 4 := by rw [e3]; exact vp_in_nI (by omega) (by decide)
  have c1 : x1.toNatClampNeg = j1 := by rw [e1, nI_clamp (by omega)]
  have c3 : x3.toNatClampNeg = j3 := by rw [e3, nI_clamp (by omega)]
  obtain ⟨b1, n1, g1, g2, g3, g4, g5, g6, g7⟩ := R.2.2.2.2.2 j1 (by omega)
  obtain ⟨b3, n3, k1, k2, k3, k4, k5, k6, k7⟩ := R.2.2.2.2.2 j3 (by omega)
  rw [c1, c3]
  refine ⟨hv1, hv3, ?_⟩
  have head : ∀ (Q : Int32 → St → Prop), (if b1 = 0 then (E_X7_error 2 SM (fun v8 S7 => Q v8 S7)) else (if b3 = 0 then (E_X7_error 2 SM (fun v18 S17 => Q v18 S17)) else (if b1 = b3 then (if x5 < 0 then (J_X7_move_106 Q SM) else (if x2 < 0 then (J_X7_move_106 Q SM) else (if x4 < 0 then (J_X7_move_106 Q SM) else (if (nI n1 - x5) < x2 then (J_X7_move_106 Q SM) else (if x4 ≤ (nI n3 - x5) then (∃ k, L_X7_move_115 Q k x1 x2 x3 x4 x5 0 SM) else (J_X7_move_106 Q SM)))))) else (E_X7_error 5 SM (fun v16 S15 => Q v16 S15))))) → E_X7_move x1 x2 x3 x4 x5 SM Q := by
    intro Q h
    unfold E_X7_move
    refine ms_ok hw ?_
    rw [if_neg (by decide)]
    refine ms_ok hw3 ?_
    rw [if_neg (by decide), c1, c3, g4, k4, g6, k6]
    refine ⟨hv1, ?_⟩
    by_cases z1 : b1 = 0
    · rw [if_pos z1] at h ⊢; exact h
    rw [if_neg z1] at h ⊢
    refine ⟨hv3, ?_⟩
    by_cases z3 : b3 = 0
    · rw [if_pos z3] at h ⊢; exact h
    rw [if_neg z3] at h ⊢
    refine ⟨hv1, hv3, ?_⟩
    by_cases z : b1 = b3
    · rw [if_pos z] at h ⊢
      by_cases p5 : x5 < 0
      · rw [if_pos p5] at h ⊢; exact h
      rw [if_neg p5] at h ⊢
      by_cases p2 : x2 < 0
      · rw [if_pos p2] at h ⊢; exact h
      rw [if_neg p2] at h ⊢
      by_cases p4 : x4 < 0
      · rw [if_pos p4] at h ⊢; exact h
      rw [if_neg p4] at h ⊢
      refine ⟨hv1, ?_⟩
      by_cases p : nI n1 - x5 < x2
      · rw [if_pos p] at h ⊢; exact h
      rw [if_neg p] at h ⊢
      exact ⟨hv3, h⟩
    · rw [if_neg z] at h ⊢; exact h
  by_cases z1 : b1 = 0
  · refine miss1 (by rw [g3, z1]) ?_
    rw [if_neg (by decide)]
    exact er 2 (by decide) (fun Q h => head Q (by rw [if_pos z1]; exact h))
  refine miss0 (by rw [g3]; exact z1) ?_
  rw [if_pos rfl]
  by_cases z3 : b3 = 0
  · refine miss1 (by rw [k3, z3]) ?_
    rw [if_neg (by decide)]
    exact er 2 (by decide) (fun Q h => head Q (by rw [if_neg z1, if_pos z3]; exact h))
  refine miss0 (by rw [k3]; exact z3) ?_
  rw [if_pos rfl, g3, k3]
  by_cases z : b1 = b3
  · rw [if_pos z]
    have bad1 : (x5 < 0 ∨ x2 < 0 ∨ nI n1 - x5 < x2) → ∀ Q, E_X7_error 1 SM (fun v S1 => Q v S1) → E_X7_move x1 x2 x3 x4 x5 SM Q := by
      intro hh Q h
      refine head Q ?_
      rw [if_neg z1, if_neg z3, if_pos z]
      by_cases p5 : x5 < 0
      · rw [if_pos p5]; exact h
      rw [if_neg p5]
      by_cases p2 : x2 < 0
      · rw [if_pos p2]; exact h
      rw [if_neg p2]
      by_cases p4 : x4 < 0
      · rw [if_pos p4]; exact h
      rw [if_neg p4, if_pos ((hh.resolve_left p5).resolve_left p2)]
      exact h
    have bad3 : (x5 < 0 ∨ x4 < 0 ∨ nI n3 - x5 < x4) → ∀ Q, E_X7_error 1 SM (fun v S1 => Q v S1) → E_X7_move x1 x2 x3 x4 x5 SM Q := by
      intro hh Q h
      refine head Q ?_
      rw [if_neg z1, if_neg z3, if_pos z]
      by_cases p5 : x5 < 0
      · rw [if_pos p5]; exact h
      rw [if_neg p5]
      by_cases p2 : x2 < 0
      · rw [if_pos p2]; exact h
      rw [if_neg p2]
      by_cases p4 : x4 < 0
      · rw [if_pos p4]; exact h
      rw [if_neg p4]
      by_cases p : nI n1 - x5 < x2
      · rw [if_pos p]; exact h
      rw [if_neg p, if_neg (Int32.not_le.mpr ((hh.resolve_left p5).resolve_left p4))]
      exact h
    rcases hold_iff (x := x2) (y := x5) g2 g5 with ⟨a, m, ham, ea, em, hh1⟩ | ⟨hb, hh⟩
    · refine hh1 _ ?_
      rw [if_neg (by decide)]
      rcases hold_iff (x := x4) (y := x5) k2 k5 with ⟨b, m', hbm, eb, em', hh3⟩ | ⟨hb, hh⟩
      · refine hh3 _ ?_
        rw [if_neg (by decide)]
        have emm : m' = m := by
          have h : nI m' = nI m := em'.symm.trans em
          exact (nI_eq (by omega) (by omega)).mp h
        subst emm
        have ca : x2.toNatClampNeg = a := by rw [ea, nI_clamp (by omega)]
        have cb : x4.toNatClampNeg = b := by rw [eb, nI_clamp (by omega)]
        have cm : x5.toNatClampNeg = m' := by rw [em, nI_clamp (by omega)]
        rw [ca, cb, cm]
        have p2 : ¬ x2 < 0 := by rw [ea]; exact nI_pos (by omega)
        have p4 : ¬ x4 < 0 := by rw [eb]; exact nI_pos (by omega)
        have p5 : ¬ x5 < 0 := by rw [em]; exact nI_pos (by omega)
        refine ⟨⟨p2, p4, p5, by omega, by omega⟩, ?_⟩
        simp only [nmS]
        refine head _ ?_
        rw [if_neg z1, if_neg z3, if_pos z, if_neg p5, if_neg p2, if_neg p4, if_neg (by rw [em, ea, pk_sub (by omega)]; exact nI_nlt (by omega) (by omega)), if_pos (by rw [em, eb, pk_sub (by omega)]; exact nI_le (by omega) (by omega)), e1, e3, ea, eb, em]
        refine e_move (by omega) (by omega) (by omega) (by omega) (fun S1 i1 r1 r20 => ⟨rfl, Rel.up (Rel.shv R (fun o ho => ⟨fun _ => rfl, fun k => st_ne (by omega)⟩) i1 (fun k hk => r1 k (by omega) (by omega)) (fun j hj => ?_))⟩)
        obtain ⟨b', n', q1, q2, q3, q4, q5, q6, q7⟩ := R.2.2.2.2.2 j hj
        refine ⟨b', n', q1, q2, q3, by rw [r1 18 (by omega) (by omega)]; exact q4, q5, by rw [r1 19 (by omega) (by omega)]; exact q6, fun i hi => ?_⟩
        rw [r20]
        by_cases q : j = j3
        · subst q
          rw [st_same]
          by_cases w : b ≤ i ∧ i < b + m'
          · rw [pk_cpy_in w.1 w.2, if_pos (by omega), g7 (a + (i - b)) (by omega), show ∀ t : Nat, 24 * j1 + a + (24 * t + i - (24 * t + b)) = 24 * j1 + (a + (i - b)) from fun t => by omega]
          · rw [pk_cpy_out (by omega), if_neg (by omega)]
            exact q7 i hi
        · rw [st_ne (by omega), if_neg (by omega)]
          exact q7 i hi
      · refine hh _ ?_
        rw [if_pos rfl]
        exact er 1 (by decide) (bad3 hb)
    · refine hh _ ?_
      rw [if_pos rfl]
      exact er 1 (by decide) (bad1 hb)
  · rw [if_neg z]
    exact er 5 (by decide) (fun Q h => head Q (by rw [if_neg z1, if_neg z3, if_neg z]; exact h))
