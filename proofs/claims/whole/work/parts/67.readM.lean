/-! TEXTS: the reference's reader -/
def FrV (S S1 : St) : Prop := (∀ o k, ¬ (o = 17 ∧ (k = 5 ∨ k = 6 ∨ k = 7)) → S1.1 o k = S.1 o k) ∧ ∀ o k, ¬ (o = 17 ∧ k = 9) → S1.2 o k = S.2 o k
theorem FrV.rf {S : St} : FrV S S := ⟨fun _ _ _ => rfl, fun _ _ _ => rfl⟩
theorem FrV.tr {S S1 S2 : St} (h : FrV S S1) (g : FrV S1 S2) : FrV S S2 := ⟨fun o k q => (g.1 o k q).trans (h.1 o k q), fun o k q => (g.2 o k q).trans (h.2 o k q)⟩
theorem FrV.int {S : St} {v : Int32} {k : Nat} (hk : k = 5 ∨ k = 6 ∨ k = 7) : FrV S (stI S 17 k v) := ⟨fun _ _ q => sI_ne (fun e => q ⟨e.1, by rw [e.2]; exact hk⟩), fun _ _ _ => rfl⟩
theorem FrV.row {S : St} {f : Nat → Int32} : FrV S (stR S 17 9 f) := ⟨fun _ _ _ => rfl, fun _ _ q => st_ne q⟩
def MR (b : Nat → Int32) (N u op : Nat) (S : St) (p : Nat) (ts : List Int32) : Prop := S.2 17 0 3 = nI N ∧ (∀ i, i < N → S.2 17 0 (303 + i) = b i) ∧ S.1 17 8 = nI u ∧ S.1 17 5 = nI p ∧ S.1 17 6 = nI op ∧ S.1 17 7 = nI ts.length ∧ ∀ (j : Nat) (t : Int32), ts[j]? = some t → S.2 17 9 (2 * j) = prW t ∧ S.2 17 9 (2 * j + 1) = prV u t
def Mdl (b : Nat → Int32) (N u op : Nat) (f : Nat → List Int32 → PR) (E : St → (Int32 → St → Prop) → Prop) : Prop := ∀ (S : St) (p : Nat) (ts : List Int32) (Q : Int32 → St → Prop), MR b N u op S p ts → p ≤ N → ts.length ≤ p → (∀ S1, FrV S S1 → (f p ts).1 = true → MR b N u op S1 (f p ts).2.1 (f p ts).2.2 → Q 1 S1) → (∀ S1, FrV S S1 → (f p ts).1 = false → S1.1 17 5 = nI (f p ts).2.1 → Q 0 S1) → E S Q
theorem MR.at {b : Nat → Int32} {N u op : Nat} {S : St} {p p1 : Nat} {ts : List Int32} (h : MR b N u op S p ts) {v : Int32} (hv : v = nI p1) : MR b N u op (stI S 17 5 v) p1 ts := by
  obtain ⟨a1, a2, a3, a4, a5, a6, a7⟩ := h
  exact ⟨a1, a2, by rw [sI_ne (by omega)]; exact a3, by rw [sI_same]; exact hv, by rw [sI_ne (by omega)]; exact a5, by rw [sI_ne (by omega)]; exact a6, a7⟩
theorem MR.op {b : Nat → Int32} {N u op op1 : Nat} {S : St} {p : Nat} {ts : List Int32} (h : MR b N u op S p ts) {v : Int32} (hv : v = nI op1) : MR b N u op1 (stI S 17 6 v) p ts := by
  obtain ⟨a1, a2, a3, a4, a5, a6, a7⟩ := h
  exact ⟨a1, a2, by rw [sI_ne (by omega)]; exact a3, by rw [sI_ne (by omega)]; exact a4, by rw [sI_same]; exact hv, by rw [sI_ne (by omega)]; exact a6, a7⟩
theorem e_look {b : Nat → Int32} {N u op : Nat} {S : St} {p : Nat} {ts : List Int32} {Q : Int32 → St → Prop} (hN : N ≤ 60) (h : MR b N u op S p ts) (hp : p ≤ N) (q : Q (nxb b N p) S) : E_X7_look S Q := by
  unfold E_X7_look
  rw [show (3 : Int32).toNatClampNeg = 3 by decide, h.1, h.2.2.2.1]
  refine ⟨vp_in_nI (n := 3) (by decide) (by decide), ?_⟩
  unfold nxb at q
  by_cases e : N ≤ p
  · rw [if_pos e] at q
    rw [if_pos (nI_le e (by omega))]
    exact q
  · rw [if_neg e] at q
    rw [if_neg (nI_ge (by omega) (by omega)), show (303 : Int32) + nI p = nI (303 + p) by rw [show (303 : Int32) = nI 303 from rfl, nI_add], nI_clamp (by omega), h.2.1 p (by omega)]
    exact ⟨vp_in_nI (by omega) (by decide), q⟩
theorem e_step1 {b : Nat → Int32} {N u op : Nat} {S : St} {p : Nat} {ts : List Int32} {t x y : Int32} {Q : St → Prop} (hN : N ≤ 60) (h : MR b N u op S p ts) (hp : p ≤ N) (hl : ts.length < p) (ex : x = prW t) (ey : y = prV u t) (q : ∀ S1, FrV S S1 → MR b N u op S1 p (ts ++ [t]) → Q S1) : E_X7_step1 x y S Q := by
  obtain ⟨a1, a2, a3, a4, a5, a6, a7⟩ := h
  have i2 : (2 : Int32) * nI ts.length = nI (2 * ts.length) := by rw [show (2 : Int32) = nI 2 from rfl, pk_mul]
  unfold E_X7_step1
  rw [a6, i2, nI_clamp (by omega)]
  refine ⟨vp_in_nI (by omega) (by decide), ?_⟩
  simp only [nmS]
  rw [st_int, a6, i2, nI_1, nI_clamp (by omega), st_same, st_st, st_int, a6, nI_1]
  refine ⟨vp_in_nI (by omega) (by decide), q _ (FrV.row.tr (FrV.int (by omega))) ⟨?_, fun i hi => ?_, ?_, ?_, ?_, ?_, fun j v hj => ?_⟩⟩
  · rw [sI_row, st_ne (by omega)]; exact a1
  · rw [sI_row, st_ne (by omega)]; exact a2 i hi
  · rw [sI_ne (by omega)]; exact a3
  · rw [sI_ne (by omega)]; exact a4
  · rw [sI_ne (by omega)]; exact a5
  · rw [sI_same, List.length_append, List.length_singleton]
  · rw [sI_row, st_same]
    rw [List.getElem?_append] at hj
    by_cases e : j < ts.length
    · rw [if_pos e] at hj
      rw [pk_un (by omega), pk_un (by omega), pk_un (by omega), pk_un (by omega)]
      exact a7 j v hj
    · rw [if_neg e] at hj
      have e2 : j = ts.length := by
        have := (List.getElem?_eq_some_iff.mp hj).1
        simp at this
        omega
      subst e2
      rw [Nat.sub_self] at hj
      have e3 : t = v := Option.some.inj hj
      subst e3
      rw [pk_un (by omega), pk_us, pk_us]
      exact ⟨ex, ey⟩
theorem sgn_pr {u : Nat} {v : Int32} (hu : u < 2) (h : isSign v) : 3 = prW (20000 + v) ∧ v = prV u (20000 + v) := by
  rcases (show u = 0 ∨ u = 1 by omega) with rfl | rfl <;> rcases h with rfl | rfl | rfl | rfl | rfl | rfl | rfl | rfl | rfl | rfl <;> exact ⟨by decide, by decide⟩
theorem num_pr {u y : Nat} (h : y < 10000) : 0 = prW (nI y) ∧ nI y = prV u (nI y) := by
  have : nI y < 10000 := nI_lt (b := 10000) h (by decide)
  unfold prW prV
  rw [if_pos this, if_pos this]
  exact ⟨rfl, rfl⟩
theorem nam_pr {u : Nat} {v : Int32} (hu : u < 2) (h : nmi u v < 3) : 1 = prW (10000 + nI (nmi u v)) ∧ v = prV u (10000 + nI (nmi u v)) := by
  have key : ∀ u, u < 2 → (1 = prW (10000 + nI 0) ∧ sNAM (3 * u) = prV u (10000 + nI 0)) ∧ (1 = prW (10000 + nI 1) ∧ sNAM (3 * u + 1) = prV u (10000 + nI 1)) ∧ (1 = prW (10000 + nI 2) ∧ sNAM (3 * u + 2) = prV u (10000 + nI 2)) := by decide
  obtain ⟨k0, k1, k2⟩ := key u hu
  unfold nmi at h ⊢
  by_cases h0 : sNAM (3 * u) = v
  · rw [if_pos h0]; rw [h0] at k0; exact k0
  rw [if_neg h0] at h ⊢
  by_cases h1 : sNAM (3 * u + 1) = v
  · rw [if_pos h1]; rw [h1] at k1; exact k1
  rw [if_neg h1] at h ⊢
  by_cases h2 : sNAM (3 * u + 2) = v
  · rw [if_pos h2]; rw [h2] at k2; exact k2
  rw [if_neg h2] at h
  omega
theorem e_isName {v : Int32} {u : Nat} {S : St} {Q : Int32 → St → Prop} (hu : u < 2) (e8 : S.1 17 8 = nI u) (h : Q (b2i (decide (nmi u v < 3))) S) : E_X7_isName v S Q := by
  unfold E_X7_isName J_X7_isName_15
  rw [e8]
  rcases (show u = 0 ∨ u = 1 by omega) with rfl | rfl
  · rw [if_pos (show nI 0 = 0 from rfl), if_pos (show nI 0 = 0 from rfl)]
    unfold nmi at h
    rw [show sNAM (3 * 0) = 99 from rfl, show sNAM (3 * 0 + 1) = 97 from rfl, show sNAM (3 * 0 + 2) = 115 from rfl] at h
    by_cases h0 : v = 99
    · rw [if_pos h0.symm] at h; rw [if_pos h0]; exact h
    rw [if_neg (fun e => h0 e.symm)] at h
    rw [if_neg h0]
    by_cases h1 : v = 97
    · rw [if_pos h1.symm] at h; rw [if_pos h1]; exact h
    rw [if_neg (fun e => h1 e.symm)] at h
    rw [if_neg h1]
    by_cases h2 : v = 115
    · rw [if_pos h2.symm] at h; rw [if_pos h2]; exact h
    rw [if_neg (fun e => h2 e.symm)] at h
    rw [if_neg h2]
    exact h
  · rw [if_neg (show ¬ nI 1 = 0 by decide), if_neg (show ¬ nI 1 = 0 by decide)]
    unfold nmi at h
    rw [show sNAM (3 * 1) = 102 from rfl, show sNAM (3 * 1 + 1) = 114 from rfl, show sNAM (3 * 1 + 2) = 100 from rfl] at h
    by_cases h0 : v = 102
    · rw [if_pos h0.symm] at h; rw [if_pos h0]; exact h
    rw [if_neg (fun e => h0 e.symm)] at h
    rw [if_neg h0]
    by_cases h1 : v = 114
    · rw [if_pos h1.symm] at h; rw [if_pos h1]; exact h
    rw [if_neg (fun e => h1 e.symm)] at h
    rw [if_neg h1]
    by_cases h2 : v = 100
    · rw [if_pos h2.symm] at h; rw [if_pos h2]; exact h
    rw [if_neg (fun e => h2 e.symm)] at h
    rw [if_neg h2]
    exact h
theorem e_inD {v : Int32} {S : St} {Q : Int32 → St → Prop} (h : Q (b2i (digB v)) S) : E_X7_in v 48 57 S Q := by
  unfold digB at h
  rcases win v 48 57 with w | w
  · refine i_no w ?_
    rcases w with w | w
    · rw [decide_eq_true w] at h; exact h
    · rw [decide_eq_true w, Bool.not_true, Bool.and_false] at h; exact h
  · refine i_ok w ?_
    rw [decide_eq_false w.1, decide_eq_false w.2] at h
    exact h
theorem mdl_lev {b : Nat → Int32} {N u op l : Nat} {q : Nat → List Int32 → PR} {E Eq : St → (Int32 → St → Prop) → Prop} {L : (Int32 → St → Prop) → Nat → St → Prop} (hN : N ≤ 60) (hu : u < 2) (hq : okP N q) (hC : Mdl b N u op q Eq) (hE : ∀ S Q, Eq S (fun v S1 => if v = 0 then Q 0 S1 else ∃ k, L Q k S1) → E S Q) (s1 : ∀ (Q : Int32 → St → Prop) (n : Nat) (S1 : St) (p1 : Nat) (ts1 : List Int32), MR b N u op S1 p1 ts1 → p1 ≤ N → sgn l (nxb b N p1) = true → Eq (stI S1 17 5 (S1.1 17 5 + 1)) (fun v S6 => if v = 0 then Q 0 S6 else E_X7_step1 3 (nxb b N p1) S6 (fun S8 => L Q n S8)) → L Q (n + 1) S1) (s0 : ∀ (Q : Int32 → St → Prop) (n : Nat) (S1 : St) (p1 : Nat) (ts1 : List Int32), MR b N u op S1 p1 ts1 → p1 ≤ N → sgn l (nxb b N p1) = false → Q 1 S1 → L Q (n + 1) S1) : Mdl b N u op (levP b N l 60 q) E := by
  intro S p ts Q hS hp ht hQ1 hQ0
  obtain ⟨a1, a2, a3⟩ := hq p ts hp
  refine hE S Q (hC S p ts _ hS hp ht (fun S1 f1 ho c1 => ?_) (fun S1 f1 ho c1 => ?_))
  · rw [if_neg (by decide)]
    obtain ⟨a4, f, a5, a6, a7⟩ := a3 ho
    have key : ∀ (m i p1 : Nat) (e1 : List Int32) (S2 : St), i + m = 60 → i ≤ p1 → p1 ≤ N → (ts ++ e1).length ≤ p1 → FrV S S2 → MR b N u op S2 p1 (ts ++ e1) → loopP b N l q m p1 (ts ++ e1) = levP b N l 60 q p ts → L Q (m + 1) S2 := by
      intro m
      induction m with
      | zero =>
        intro i p1 e1 S2 hi hip hp1 hl1 hF hc he
        rw [loopP] at he
        refine s0 Q 0 S2 p1 _ hc hp1 ?_ (hQ1 S2 hF (by rw [← he]) (by rw [← he]; exact hc))
        have : nxb b N p1 = -1 := by unfold nxb; rw [if_pos (by omega)]
        rw [this]
        cases h : sgn l (-1) with
        | false => rfl
        | true => exact absurd rfl (sgn_ne h).2
      | succ m ih =>
        intro i p1 e1 S2 hi hip hp1 hl1 hF hc he
        rw [loopP] at he
        by_cases hs : sgn l (nxb b N p1) = true
        · rw [if_pos hs] at he
          have hlt : p1 < N := nxb_lt rfl (sgn60 hs)
          refine s1 Q _ S2 p1 _ hc hp1 hs ?_
          obtain ⟨b1, b2, b3⟩ := hq (p1 + 1) (ts ++ e1) (by omega)
          rw [hc.2.2.2.1, nI_1]
          refine hC _ (p1 + 1) (ts ++ e1) _ (hc.at rfl) (by omega) (by omega) (fun S3 f3 ho3 c3 => ?_) (fun S3 f3 ho3 c3 => ?_)
          · rw [if_pos ho3] at he
            rw [if_neg (by decide)]
            obtain ⟨b4, f', b5, b6, b7⟩ := b3 ho3
            have len3 : (q (p1 + 1) (ts ++ e1)).2.2.length < (q (p1 + 1) (ts ++ e1)).2.1 := by rw [b5, List.length_append]; omega
            refine e_step1 hN c3 b2 len3 (sgn_pr hu (sgn_ne hs).1).1 (sgn_pr hu (sgn_ne hs).1).2 (fun S4 f4 c4 => ?_)
            rw [b5, List.append_assoc, List.append_assoc] at c4 he
            refine ih (i + 1) _ _ S4 (by omega) (by omega) b2 ?_ (((hF.tr (FrV.int (by omega))).tr f3).tr f4) c4 he
            rw [← List.append_assoc, ← List.append_assoc, ← b5, List.length_append, List.length_singleton]
            omega
          · rw [if_neg (by rw [ho3]; exact Bool.false_ne_true)] at he
            rw [if_pos rfl]
            exact hQ0 S3 ((hF.tr (FrV.int (by omega))).tr f3) (by rw [← he]; exact ho3) (by rw [← he]; exact c3)
        · rw [if_neg hs] at he
          rw [Bool.not_eq_true] at hs
          exact s0 Q _ S2 p1 _ hc hp1 hs (hQ1 S2 hF (by rw [← he]) (by rw [← he]; exact hc))
    rw [a5] at c1
    refine ⟨61, key 60 0 _ f S1 (by decide) (by omega) a2 (by rw [List.length_append]; omega) f1 c1 ?_⟩
    unfold levP
    rw [if_pos ho, a5]
  · rw [if_pos rfl]
    have he : levP b N l 60 q p ts = q p ts := by unfold levP; rw [if_neg (by rw [ho]; exact Bool.false_ne_true)]
    exact hQ0 S1 f1 (by rw [he]; exact ho) (by rw [he]; exact c1)
theorem sgn_0 {v : Int32} : sgn 0 v = decide (v = 124) := rfl
theorem sgn_1 {v : Int32} : sgn 1 v = decide (v = 38) := rfl
theorem sgn_2 {v : Int32} : sgn 2 v = decide (v = 60 ∨ v = 61 ∨ v = 62) := rfl
theorem sgn_3 {v : Int32} : sgn 3 v = decide (v = 43 ∨ v = 45) := rfl
theorem sgn_4 {v : Int32} : sgn 4 v = decide (v = 42 ∨ v = 47 ∨ v = 37) := rfl
theorem mdl_4 {b : Nat → Int32} {N u op D : Nat} {q : Nat → List Int32 → PR} (hN : N ≤ 60) (hu : u < 2) (hq : okP N q) (hC : Mdl b N u op q (G_X7_whole D).2.2.2.2.2) : Mdl b N u op (levP b N 4 60 q) (G_X7_whole (D + 1)).2.2.2.2.1 := by
  refine mdl_lev (L := L_X7_product_9 (G_X7_whole D).1 (G_X7_whole D).2.1 (G_X7_whole D).2.2.1 (G_X7_whole D).2.2.2.1 (G_X7_whole D).2.2.2.2.1 (G_X7_whole D).2.2.2.2.2) hN hu hq hC (fun S Q h => ?_) (fun Q n S1 p1 ts1 hR hp hs h => ?_) (fun Q n S1 p1 ts1 hR hp hs h => ?_)
  · show B_X7_product _ _ _ _ _ _ S Q
    unfold B_X7_product
    exact h
  · have J : J_X7_product_36 (G_X7_whole D).1 (G_X7_whole D).2.1 (G_X7_whole D).2.2.1 (G_X7_whole D).2.2.2.1 (G_X7_whole D).2.2.2.2.1 (G_X7_whole D).2.2.2.2.2 (L_X7_product_9 (G_X7_whole D).1 (G_X7_whole D).2.1 (G_X7_whole D).2.2.1 (G_X7_whole D).2.2.2.1 (G_X7_whole D).2.2.2.2.1 (G_X7_whole D).2.2.2.2.2 Q n) Q S1 := by
      unfold J_X7_product_36
      refine e_look hN hR hp ?_
      simp only [nmS]
      exact h
    unfold L_X7_product_9
    rw [sgn_4] at hs
    refine e_look hN hR hp ?_
    by_cases h1 : nxb b N p1 = 42
    · rw [if_pos h1]; exact J
    rw [if_neg h1]
    refine e_look hN hR hp ?_
    by_cases h2 : nxb b N p1 = 47
    · rw [if_pos h2]; exact J
    rw [if_neg h2]
    refine e_look hN hR hp ?_
    rw [if_pos (((of_decide_eq_true hs).resolve_left h1).resolve_left h2)]
    exact J
  · unfold L_X7_product_9
    rw [sgn_4] at hs
    have hs := of_decide_eq_false hs
    refine e_look hN hR hp ?_
    rw [if_neg (fun e => hs (Or.inl e))]
    refine e_look hN hR hp ?_
    rw [if_neg (fun e => hs (Or.inr (Or.inl e)))]
    refine e_look hN hR hp ?_
    rw [if_neg (fun e => hs (Or.inr (Or.inr e)))]
    exact h
theorem mdl_3 {b : Nat → Int32} {N u op D : Nat} {q : Nat → List Int32 → PR} (hN : N ≤ 60) (hu : u < 2) (hq : okP N q) (hC : Mdl b N u op q (G_X7_whole D).2.2.2.2.1) : Mdl b N u op (levP b N 3 60 q) (G_X7_whole (D + 1)).2.2.2.1 := by
  refine mdl_lev (L := L_X7_sum_9 (G_X7_whole D).1 (G_X7_whole D).2.1 (G_X7_whole D).2.2.1 (G_X7_whole D).2.2.2.1 (G_X7_whole D).2.2.2.2.1 (G_X7_whole D).2.2.2.2.2) hN hu hq hC (fun S Q h => ?_) (fun Q n S1 p1 ts1 hR hp hs h => ?_) (fun Q n S1 p1 ts1 hR hp hs h => ?_)
  · show B_X7_sum _ _ _ _ _ _ S Q
    unfold B_X7_sum
    exact h
  · have J : J_X7_sum_27 (G_X7_whole D).1 (G_X7_whole D).2.1 (G_X7_whole D).2.2.1 (G_X7_whole D).2.2.2.1 (G_X7_whole D).2.2.2.2.1 (G_X7_whole D).2.2.2.2.2 (L_X7_sum_9 (G_X7_whole D).1 (G_X7_whole D).2.1 (G_X7_whole D).2.2.1 (G_X7_whole D).2.2.2.1 (G_X7_whole D).2.2.2.2.1 (G_X7_whole D).2.2.2.2.2 Q n) Q S1 := by
      unfold J_X7_sum_27
      refine e_look hN hR hp ?_
      simp only [nmS]
      exact h
    unfold L_X7_sum_9
    rw [sgn_3] at hs
    refine e_look hN hR hp ?_
    by_cases h1 : nxb b N p1 = 43
    · rw [if_pos h1]; exact J
    rw [if_neg h1]
    refine e_look hN hR hp ?_
    rw [if_pos ((of_decide_eq_true hs).resolve_left h1)]
    exact J
  · unfold L_X7_sum_9
    rw [sgn_3] at hs
    have hs := of_decide_eq_false hs
    refine e_look hN hR hp ?_
    rw [if_neg (fun e => hs (Or.inl e))]
    refine e_look hN hR hp ?_
    rw [if_neg (fun e => hs (Or.inr e))]
    exact h
theorem mdl_2 {b : Nat → Int32} {N u op D : Nat} {q : Nat → List Int32 → PR} (hN : N ≤ 60) (hu : u < 2) (hq : okP N q) (hC : Mdl b N u op q (G_X7_whole D).2.2.2.1) : Mdl b N u op (levP b N 2 1 q) (G_X7_whole (D + 1)).2.2.1 := by
  intro S p ts Q hS hp ht hQ1 hQ0
  show B_X7_compared _ _ _ _ _ _ S Q
  unfold B_X7_compared
  obtain ⟨a1, a2, a3⟩ := hq p ts hp
  refine hC S p ts _ hS hp ht (fun S1 f1 ho c1 => ?_) (fun S1 f1 ho c1 => ?_)
  · rw [if_neg (by decide)]
    obtain ⟨a4, f, a5, a6, a7⟩ := a3 ho
    have e : levP b N 2 1 q p ts = loopP b N 2 q 1 (q p ts).2.1 (q p ts).2.2 := by unfold levP; rw [if_pos ho]
    rw [e] at hQ1 hQ0
    refine e_look hN c1 a2 ?_
    have len1 : (q p ts).2.2.length ≤ (q p ts).2.1 := by rw [a5, List.length_append]; omega
    by_cases hs : sgn 2 (nxb b N (q p ts).2.1) = true
    · have hlt : (q p ts).2.1 < N := nxb_lt rfl (sgn60 hs)
      obtain ⟨P1, hP1⟩ : ∃ P1, (q p ts).2.1 = P1 := ⟨_, rfl⟩
      obtain ⟨T1, hT1⟩ : ∃ T1, (q p ts).2.2 = T1 := ⟨_, rfl⟩
      rw [hP1, hT1] at hQ1 hQ0 c1 len1
      rw [hP1] at hs hlt a2 ⊢
      rw [loopP, if_pos hs] at hQ1 hQ0
      obtain ⟨b1, b2, b3⟩ := hq (P1 + 1) T1 (by omega)
      have J : J_X7_compared_34 (G_X7_whole D).1 (G_X7_whole D).2.1 (G_X7_whole D).2.2.1 (G_X7_whole D).2.2.2.1 (G_X7_whole D).2.2.2.2.1 (G_X7_whole D).2.2.2.2.2 Q (nxb b N P1) S1 := by
        unfold J_X7_compared_34
        simp only [nmS]
        rw [c1.2.2.2.1, nI_1]
        refine hC _ (P1 + 1) T1 _ (c1.at rfl) (by omega) (by omega) (fun S3 f3 ho3 c3 => ?_) (fun S3 f3 ho3 c3 => ?_)
        · rw [if_neg (by decide)]
          obtain ⟨b4, f', b5, b6, b7⟩ := b3 ho3
          have len3 : (q (P1 + 1) T1).2.2.length < (q (P1 + 1) T1).2.1 := by rw [b5, List.length_append]; omega
          rw [if_pos ho3] at hQ1
          exact e_step1 hN c3 b2 len3 (sgn_pr hu (sgn_ne hs).1).1 (sgn_pr hu (sgn_ne hs).1).2 (fun S4 f4 c4 => hQ1 S4 (((f1.tr (FrV.int (by omega))).tr f3).tr f4) rfl c4)
        · rw [if_pos rfl]
          rw [if_neg (by rw [ho3]; exact Bool.false_ne_true)] at hQ0
          exact hQ0 S3 ((f1.tr (FrV.int (by omega))).tr f3) ho3 c3
      rw [sgn_2] at hs
      have hs := of_decide_eq_true hs
      by_cases h1 : nxb b N P1 = 60
      · rw [if_pos h1]; exact J
      rw [if_neg h1]
      by_cases h2 : nxb b N P1 = 61
      · rw [if_pos h2]; exact J
      rw [if_neg h2, if_pos ((hs.resolve_left h1).resolve_left h2)]
      exact J
    · rw [loopP, if_neg hs] at hQ1
      rw [Bool.not_eq_true, sgn_2] at hs
      have hs := of_decide_eq_false hs
      rw [if_neg (fun e => hs (Or.inl e)), if_neg (fun e => hs (Or.inr (Or.inl e))), if_neg (fun e => hs (Or.inr (Or.inr e)))]
      exact hQ1 S1 f1 rfl c1
  · rw [if_pos rfl]
    have he : levP b N 2 1 q p ts = q p ts := by unfold levP; rw [if_neg (by rw [ho]; exact Bool.false_ne_true)]
    exact hQ0 S1 f1 (by rw [he]; exact ho) (by rw [he]; exact c1)
theorem mdl_1 {b : Nat → Int32} {N u op D : Nat} {q : Nat → List Int32 → PR} (hN : N ≤ 60) (hu : u < 2) (hq : okP N q) (hC : Mdl b N u op q (G_X7_whole D).2.2.1) : Mdl b N u op (levP b N 1 60 q) (G_X7_whole (D + 1)).2.1 := by
  refine mdl_lev (L := L_X7_both_9 (G_X7_whole D).1 (G_X7_whole D).2.1 (G_X7_whole D).2.2.1 (G_X7_whole D).2.2.2.1 (G_X7_whole D).2.2.2.2.1 (G_X7_whole D).2.2.2.2.2) hN hu hq hC (fun S Q h => ?_) (fun Q n S1 p1 ts1 hR hp hs h => ?_) (fun Q n S1 p1 ts1 hR hp hs h => ?_)
  · show B_X7_both _ _ _ _ _ _ S Q
    unfold B_X7_both
    exact h
  · unfold L_X7_both_9
    rw [sgn_1] at hs
    refine e_look hN hR hp ?_
    rw [if_pos (of_decide_eq_true hs)]
    simp only [nmS]
    rw [of_decide_eq_true hs] at h
    exact h
  · unfold L_X7_both_9
    rw [sgn_1] at hs
    refine e_look hN hR hp ?_
    rw [if_neg (of_decide_eq_false hs)]
    exact h
theorem mdl_0 {b : Nat → Int32} {N u op D : Nat} {q : Nat → List Int32 → PR} (hN : N ≤ 60) (hu : u < 2) (hq : okP N q) (hC : Mdl b N u op q (G_X7_whole D).2.1) : Mdl b N u op (levP b N 0 60 q) (G_X7_whole (D + 1)).1 := by
  refine mdl_lev (L := L_X7_whole_9 (G_X7_whole D).1 (G_X7_whole D).2.1 (G_X7_whole D).2.2.1 (G_X7_whole D).2.2.2.1 (G_X7_whole D).2.2.2.2.1 (G_X7_whole D).2.2.2.2.2) hN hu hq hC (fun S Q h => ?_) (fun Q n S1 p1 ts1 hR hp hs h => ?_) (fun Q n S1 p1 ts1 hR hp hs h => ?_)
  · show B_X7_whole _ _ _ _ _ _ S Q
    unfold B_X7_whole
    exact h
  · unfold L_X7_whole_9
    rw [sgn_0] at hs
    refine e_look hN hR hp ?_
    rw [if_pos (of_decide_eq_true hs)]
    simp only [nmS]
    rw [of_decide_eq_true hs] at h
    exact h
  · unfold L_X7_whole_9
    rw [sgn_0] at hs
    refine e_look hN hR hp ?_
    rw [if_neg (of_decide_eq_false hs)]
    exact h
theorem mdl_lv5 {b : Nat → Int32} {N u op D : Nat} {q : Nat → List Int32 → PR} (hN : N ≤ 60) (hu : u < 2) (hq : okP N q) (hC : Mdl b N u op q (G_X7_whole D).2.2.2.2.2) : Mdl b N u op (lvP b N q 5) (G_X7_whole (D + 5)).1 := by
  have m4 : Mdl b N u op (lvP b N q 1) (G_X7_whole (D + 1)).2.2.2.2.1 := mdl_4 hN hu hq hC
  have m3 : Mdl b N u op (lvP b N q 2) (G_X7_whole (D + 2)).2.2.2.1 := mdl_3 hN hu (lvP_ok hq 1) m4
  have m2 : Mdl b N u op (lvP b N q 3) (G_X7_whole (D + 3)).2.2.1 := mdl_2 hN hu (lvP_ok hq 2) m3
  have m1 : Mdl b N u op (lvP b N q 4) (G_X7_whole (D + 4)).2.1 := mdl_1 hN hu (lvP_ok hq 3) m2
  exact mdl_0 hN hu (lvP_ok hq 4) m1
