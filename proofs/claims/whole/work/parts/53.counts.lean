/-! PAIRS OF CALLS: dishIs, law, meal, meals, seed, count, told, body -/
theorem us_ok {S : St} {Q : Int32 → St → Prop} {x : Int32} (h : ¬ x < 0 ∧ ¬ 1 < x) (q : Q 1 S) : E_X6_isUse x S Q := w_ok h ⟨Or.inr rfl, q⟩
theorem us_no {S : St} {Q : Int32 → St → Prop} {x : Int32} (h : x < 0 ∨ 1 < x) (q : Q 0 S) : E_X6_isUse x S Q := w_no h ⟨Or.inl rfl, q⟩
theorem sh_ok {S : St} {Q : Int32 → St → Prop} {x : Int32} (h : ¬ x < 0 ∧ ¬ 3 < x) (q : Q 1 S) : E_X6_isSheet x S Q := w_ok h ⟨Or.inr rfl, q⟩
theorem sh_no {S : St} {Q : Int32 → St → Prop} {x : Int32} (h : x < 0 ∨ 3 < x) (q : Q 0 S) : E_X6_isSheet x S Q := w_no h ⟨Or.inl rfl, q⟩
theorem ms_ok {S : St} {Q : Int32 → St → Prop} {x : Int32} (h : ¬ x < 0 ∧ ¬ 3 < x) (q : Q 1 S) : E_X7_isSheet x S Q := i_ok h ⟨Or.inr rfl, q⟩
theorem ms_no {S : St} {Q : Int32 → St → Prop} {x : Int32} (h : x < 0 ∨ 3 < x) (q : Q 0 S) : E_X7_isSheet x S Q := i_no h ⟨Or.inl rfl, q⟩
def sumN (sz : Nat → Int32) : Nat → Int32
  | 0 => 0
  | i + 1 => sumN sz i + sz i
theorem e_X4_left {S : St} {Q : Int32 → St → Prop} {t : Nat} {T : TB} (hb : tbC S t T) (h9 : T.1 ≤ 9) (h : Q (sumN (T.2.2.2 2) T.1) S) : E_X4_left t S Q := by
  have key : ∀ (n i : Nat), i + n = T.1 → L_X4_left_4 t Q (n + 1) (sumN (T.2.2.2 2) i) (nI i) S := by
    intro n
    induction n with
    | zero =>
      intro i hi
      unfold L_X4_left_4
      have e : i = T.1 := by omega
      rw [hb.1, e, if_pos (nI_le (Nat.le_refl _) (by omega))]
      exact h
    | succ n ih =>
      intro i hi
      have hi1 : i < T.1 := by omega
      unfold L_X4_left_4
      rw [hb.1, if_neg (nI_ge hi1 (by omega)), nI_clamp (by omega), show S.2 t 7 i = T.2.2.2 2 i from hb.2.2.2 2 i (by decide) hi1]
      refine ⟨vp_in_nI (by omega) (by decide), ?_⟩
      simp only [nmI]
      rw [nI_1]
      exact ih (i + 1) (by omega)
  exact ⟨T.1 + 1, key T.1 0 (by omega)⟩
theorem e_X7_allLeft {S : St} {Q : Int32 → St → Prop} {T : TB} (hb : tbM S T) (h9 : T.1 ≤ 9) (h : Q (sumN (T.2.2.2 2) T.1) S) : E_X7_allLeft S Q := by
  have v5 : vp_in (5 : Int32) 387 := vp_in_nI (n := 5) (by decide) (by decide)
  have key : ∀ (n i : Nat), i + n = T.1 → L_X7_allLeft_4 Q (n + 1) (sumN (T.2.2.2 2) i) (nI i) S := by
    intro n
    induction n with
    | zero =>
      intro i hi
      unfold L_X7_allLeft_4
      have e : i = T.1 := by omega
      rw [show (5 : Int32).toNatClampNeg = 5 by decide, hb.1, e, if_pos (nI_le (Nat.le_refl _) (by omega))]
      exact ⟨v5, h⟩
    | succ n ih =>
      intro i hi
      have hi1 : i < T.1 := by omega
      unfold L_X7_allLeft_4
      rw [show (5 : Int32).toNatClampNeg = 5 by decide, hb.1, if_neg (nI_ge hi1 (by omega))]
      refine ⟨v5, e_its (w := 2) (by omega) (by decide) rfl ?_⟩
      rw [hb.2.2.2 2 i (by decide) hi1]
      simp only [nmI]
      rw [nI_1]
      exact ih (i + 1) (by omega)
  exact ⟨T.1 + 1, key T.1 0 (by omega)⟩
theorem out7 {x : Int32} {k : Int32} (h : x < 0 ∨ 7 < x) (hk : ¬ (k < 0 ∨ 7 < k)) : ¬ x = k := fun e => hk (by rw [← e]; exact h)
theorem f_dishIs {c : Nat} {SC SM : St} (R : Rel c SC SM) (x1 x2 : Int32) : E_X6_dishIs x1 x2 SC (fun r SC1 => E_X7_dishIs x1 x2 SM (RQ c SC1 r)) := by
  obtain ⟨H, h1, h2, h3⟩ := R.1
  have h9 := h3.1.1
  have hLC := lawsC_of h1 R.2.1
  unfold E_X6_dishIs
  rcases pk_ix x1 (n := H.1.1) (by omega) with hx | hx | ⟨d, hd, rfl⟩
  · refine has_no h1.1.1 (Or.inl hx) ?_
    rw [if_pos rfl]
    refine e_wrong 1 (by decide) rfl ?_
    unfold E_X7_dishIs
    refine dis_no h2.1.1 h9 (Or.inl hx) ?_
    rw [if_pos rfl]
    exact e_error 1 (by decide) rfl ⟨rfl, (R.err 1 (by decide)).up⟩
  · refine has_no h1.1.1 (Or.inr hx) ?_
    rw [if_pos rfl]
    refine e_wrong 1 (by decide) rfl ?_
    unfold E_X7_dishIs
    refine dis_no h2.1.1 h9 (Or.inr hx) ?_
    rw [if_pos rfl]
    exact e_error 1 (by decide) rfl ⟨rfl, (R.err 1 (by decide)).up⟩
  refine has_ok h1.1.1 h9 hd ?_
  rw [if_neg (by decide)]
  have hv : vp_in (nI d) 9 := vp_in_nI (by omega) (by decide)
  rcases win x2 0 7 with hw | hw
  · rw [if_neg (out7 hw (by decide)), if_neg (out7 hw (by decide)), if_neg (out7 hw (by decide)), if_neg (out7 hw (by decide)), if_neg (out7 hw (by decide)), if_neg (out7 hw (by decide)), if_neg (out7 hw (by decide)), if_neg (out7 hw (by decide))]
    refine e_wrong 1 (by decide) rfl ?_
    unfold E_X7_dishIs
    refine dis_ok h2.1.1 h9 hd ?_
    rw [if_neg (by decide)]
    refine i_no hw ?_
    rw [if_pos rfl]
    exact e_error 1 (by decide) rfl ⟨rfl, (R.err 1 (by decide)).up⟩
  have mid : ∀ (r : Int32) (SC1 : St), (if x2 = 5 then (E_X7_claimOf (nI d) SM (fun v8 S7 => RQ c SC1 r v8 S7)) else (if x2 = 6 then (E_X7_spoilsOf (nI d) SM (fun v10 S9 => RQ c SC1 r v10 S9)) else (if x2 = 7 then (E_X7_findRuler SM (fun v12 S11 => E_X7_isInKeeping (nI d) v12 S11 (fun v14 S13 => if v14 = 0 then (RQ c SC1 r 0 S13) else (RQ c SC1 r 1 S13)))) else (E_X7_its (nI d) x2 SM (fun v16 S15 => RQ c SC1 r v16 S15))))) → E_X7_dishIs (nI d) x2 SM (RQ c SC1 r) := by
    intro r SC1 h
    unfold E_X7_dishIs
    refine dis_ok h2.1.1 h9 hd ?_
    rw [if_neg (by decide)]
    refine i_ok hw ?_
    rw [if_neg (by decide)]
    exact h
  have low : ∀ w, w < 5 → x2 = nI w → ∀ r, r = H.1.2.2.2 w d → E_X7_dishIs (nI d) x2 SM (RQ c SC r) := by
    intro w hw5 e r hr
    refine mid r SC ?_
    have n5 : ¬ x2 = 5 := fun q => by have := (nI_eq (a := w) (b := 5) (by omega) (by decide)).mp (e.symm.trans q); omega
    have n6 : ¬ x2 = 6 := fun q => by have := (nI_eq (a := w) (b := 6) (by omega) (by decide)).mp (e.symm.trans q); omega
    have n7 : ¬ x2 = 7 := fun q => by have := (nI_eq (a := w) (b := 7) (by omega) (by decide)).mp (e.symm.trans q); omega
    rw [if_neg n5, if_neg n6, if_neg n7]
    refine e_its (w := w) (by omega) hw5 e ⟨?_, R.up⟩
    rw [hr, h2.1.2.2.2 w d hw5 hd]
  obtain ⟨w, hw7, rfl⟩ := win_nI (b := 7) (m := 7) rfl (by decide) hw
  rw [nI_clamp (by omega)]
  rcases (show w = 0 ∨ w = 1 ∨ w = 2 ∨ w = 3 ∨ w = 4 ∨ w = 5 ∨ w = 6 ∨ w = 7 by omega) with rfl | rfl | rfl | rfl | rfl | rfl | rfl | rfl
  · rw [if_pos (by decide)]
    exact ⟨hv, low 0 (by decide) rfl _ (h1.1.2.2.2 0 d (by decide) hd)⟩
  · rw [if_neg (by decide), if_pos (by decide)]
    exact ⟨hv, low 1 (by decide) rfl _ (h1.1.2.2.2 1 d (by decide) hd)⟩
  · rw [if_neg (by decide), if_neg (by decide), if_pos (by decide)]
    exact ⟨hv, low 2 (by decide) rfl _ (h1.1.2.2.2 2 d (by decide) hd)⟩
  · rw [if_neg (by decide), if_neg (by decide), if_neg (by decide), if_pos (by decide)]
    exact ⟨hv, low 3 (by decide) rfl _ (h1.1.2.2.2 3 d (by decide) hd)⟩
  · rw [if_neg (by decide), if_neg (by decide), if_neg (by decide), if_neg (by decide), if_pos (by decide)]
    exact ⟨hv, low 4 (by decide) rfl _ (h1.1.2.2.2 4 d (by decide) hd)⟩
  · rw [if_neg (by decide), if_neg (by decide), if_neg (by decide), if_neg (by decide), if_neg (by decide), if_pos (by decide)]
    refine e_X4_claimOf (Or.inl rfl) h1.1 hLC h3.2.1 hd h9 (fun SC1 hK => mid _ SC1 ?_)
    rw [if_pos (by decide)]
    exact e_X7_claimOf h2.1 h2.2.1 h3.2.1 hd h9 (fun SM1 hN => ⟨rfl, R.same (Or.inl rfl) hK.c hN.g⟩)
  · rw [if_neg (by decide), if_neg (by decide), if_neg (by decide), if_neg (by decide), if_neg (by decide), if_neg (by decide), if_pos (by decide)]
    have a3 := h3.1.2.2 d hd 3 (by decide)
    refine e_X4_spoilOf h1.1 hd h9 a3.1 a3.2 (mid _ SC ?_)
    rw [if_neg (by decide), if_pos (by decide)]
    exact e_X7_spoilsOf h2.1 hd h9 ⟨rfl, R.up⟩
  · rw [if_neg (by decide), if_neg (by decide), if_neg (by decide), if_neg (by decide), if_neg (by decide), if_neg (by decide), if_neg (by decide), if_pos (by decide)]
    refine e_X4_sayer (Or.inl rfl) h1.1 hLC h3.2.1 h9 (fun SC1 hC _ => ?_)
    refine e_X4_isKeptBy (Or.inl rfl) (hC.tb (Or.inl rfl) h1.1) (hC.lw (Or.inl rfl) hLC) h3.2.1 hd h9 (fun b hs => (sayN_lt hs).1) (fun SC2 hK => ?_)
    have fin : ∀ r, r = b2i (kpB H.2.1.2 H.1 (sayN (H.1.2.2.2 2) (clmD H.2.1.1 H.1) H.1.1) d) → E_X7_dishIs (nI d) (nI 7) SM (RQ c SC2 r) := by
      intro r hr
      refine mid _ SC2 ?_
      rw [if_neg (by decide), if_neg (by decide), if_pos (by decide)]
      refine e_X7_findRuler h2.1 h2.2.1 h3.2.1 h9 (fun SM1 hG _ => ?_)
      refine e_X7_isInKeeping (hG.tb h2.1) (hG.lw h2.2.1) h3.2.1 hd h9 (fun b hs => (sayN_lt hs).1) (fun SM2 hN => ?_)
      have rel := R.same (Or.inl rfl) (hC.tr hK.c) (hG.tr hN.g)
      rw [hr]
      cases kpB H.2.1.2 H.1 (sayN (H.1.2.2.2 2) (clmD H.2.1.1 H.1) H.1.1) d with
      | false => rw [if_pos (by decide)]; exact ⟨rfl, rel⟩
      | true => rw [if_neg (by decide)]; exact ⟨rfl, rel⟩
    revert fin
    cases kpB H.2.1.2 H.1 (sayN (H.1.2.2.2 2) (clmD H.2.1.1 H.1) H.1.1) d with
    | false => intro fin; rw [if_pos (by decide)]; exact fin 0 rfl
    | true => intro fin; rw [if_neg (by decide)]; exact fin 1 rfl
theorem f_law {c : Nat} {SC SM : St} (R : Rel c SC SM) (x1 x2 x3 x4 : Int32) : E_X6_law x1 x2 x3 x4 SC (fun r SC1 => E_X7_law x1 x2 x3 x4 SM (RQ c SC1 r)) := by
  obtain ⟨H, h1, h2, h3⟩ := R.1
  have hLC := lawsC_of h1 R.2.1
  unfold E_X6_law
  rcases win x1 0 1 with hk | hk
  · refine us_no hk ?_
    rw [if_pos rfl]
    refine e_wrong 1 (by decide) rfl ?_
    unfold E_X7_law
    refine i_no hk ?_
    rw [if_pos rfl]
    exact e_error 1 (by decide) rfl ⟨rfl, (R.err 1 (by decide)).up⟩
  refine us_ok hk ?_
  rw [if_neg (by decide)]
  unfold E_X6_lawOf
  by_cases e : x1 = 0
  · rw [if_pos e]
    refine ⟨okC_6, e_gives6 hLC h3.2.1 (fun SC1 hK => ?_)⟩
    unfold E_X7_law
    refine i_ok hk ?_
    rw [if_neg (by decide), if_pos e]
    exact e_claimTold h2.2.1 h3.2.1 (fun SM1 hN => ⟨rfl, R.same (Or.inl rfl) hK.c hN.g⟩)
  · rw [if_neg e]
    refine ⟨okC_7, e_gives7 hLC h3.2.1 (fun SC1 hK => ?_)⟩
    unfold E_X7_law
    refine i_ok hk ?_
    rw [if_neg (by decide), if_neg e]
    exact e_keepingTold h2.2.1 h3.2.1 (fun SM1 hN => ⟨rfl, R.same (Or.inl rfl) hK.c hN.g⟩)
theorem day_1 {x : Int32} (h0 : 0 ≤ x.toInt) (h1 : x.toInt ≤ 20000) : (x + 1).toInt = x.toInt + 1 := add_sm h0 (by omega) (by decide) (by decide)
theorem f_meal {c : Nat} {SC SM : St} (R : Rel c SC SM) (x1 : Int32) : E_X6_meal x1 SC (fun r SC1 => E_X7_meal x1 SM (RQ c SC1 r)) := by
  obtain ⟨H, h1, h2, h3⟩ := R.1
  have hLC := lawsC_of h1 R.2.1
  have v0 : vp_in (0 : Int32) 387 := vp_in_nI (n := 0) (by decide) (by decide)
  unfold E_X6_meal
  rcases win x1 0 99 with hk | hk
  · refine hc_no hk ?_
    rw [if_pos rfl]
    refine e_wrong 1 (by decide) rfl ?_
    unfold E_X7_meal
    refine hm_no hk ?_
    rw [if_pos rfl]
    exact e_error 1 (by decide) rfl ⟨rfl, (R.err 1 (by decide)).up⟩
  refine hc_ok hk ?_
  rw [if_neg (by decide), show SC.1 3 3 = H.1.2.1 from h1.1.2.1]
  have rg := rg_of (m := 99) rfl (by decide) hk
  have hd := h3.2.2.1
  have t9 : (9999 : Int32).toInt = 9999 := by decide
  by_cases e : H.1.2.1 < 9999
  · rw [if_pos e]
    refine e_dine (Or.inl rfl) h3.1 h1.1 hLC h3.2.1 rg.1 rg.2 (fun SC1 hF hT => ?_)
    unfold E_X7_meal
    refine hm_ok hk ?_
    rw [if_neg (by decide), show (0 : Int32).toNatClampNeg = 0 by decide, show SM.2 17 0 0 = H.1.2.1 from h2.1.2.1, if_neg (fun q => by rw [q] at e; exact absurd e (by decide))]
    refine ⟨v0, e_aMeal h3.1 h2.1 h2.2.1 h3.2.1 rg.1 rg.2 (fun SM1 hM hT2 => ⟨rfl, R.tab h1 h2 h3 hF hM hT hT2 (mealT_inv h3.1 rg.1 rg.2).1 ?_⟩)⟩
    have e2 := Int32.lt_iff_toInt_lt.mp e
    have := day_1 hd.1 (by omega)
    show 0 ≤ (H.1.2.1 + 1).toInt ∧ (H.1.2.1 + 1).toInt ≤ 9999
    omega
  · rw [if_neg e]
    refine e_wrong 3 (by decide) rfl ?_
    unfold E_X7_meal
    refine hm_ok hk ?_
    rw [if_neg (by decide), show (0 : Int32).toNatClampNeg = 0 by decide, show SM.2 17 0 0 = H.1.2.1 from h2.1.2.1, if_pos (Int32.toInt_inj.mp (by
      have e2 := mt Int32.lt_iff_toInt_lt.mpr e
      omega))]
    exact ⟨v0, e_error 3 (by decide) rfl ⟨rfl, (R.err 3 (by decide)).up⟩⟩
theorem mealsT_day {L : List Int32 × List Int32} {h : Int32} : ∀ (n : Nat) (T : TB), 0 ≤ T.2.1.toInt → T.2.1.toInt + n ≤ 20000 → (mealsT L h n T).2.1.toInt = T.2.1.toInt + n := by
  intro n
  induction n with
  | zero => intro T _ _; simp [mealsT]
  | succ n ih =>
    intro T h0 h1
    have e : (mealT L T h).2.2.1 = T.2.1 + 1 := rfl
    have d := day_1 h0 (by omega)
    unfold mealsT
    rw [ih _ (by rw [e]; omega) (by rw [e]; omega), e, d]
    omega
theorem f_meals {c : Nat} {SC SM : St} (R : Rel c SC SM) (x1 x2 : Int32) : E_X6_meals x1 x2 SC (fun r SC1 => E_X7_meals x1 x2 SM (RQ c SC1 r)) := by
  obtain ⟨H, h1, h2, h3⟩ := R.1
  have hLC := lawsC_of h1 R.2.1
  have v0 : vp_in (0 : Int32) 387 := vp_in_nI (n := 0) (by decide) (by decide)
  unfold E_X6_meals
  rcases win x1 1 60 with hn | hn
  · refine w_no hn ?_
    rw [if_pos rfl]
    refine e_wrong 1 (by decide) rfl ?_
    unfold E_X7_meals
    refine i_no hn ?_
    rw [if_pos rfl]
    exact e_error 1 (by decide) rfl ⟨rfl, (R.err 1 (by decide)).up⟩
  refine w_ok hn ?_
  rw [if_neg (by decide)]
  rcases win x2 0 99 with hk | hk
  · refine hc_no hk ?_
    rw [if_pos rfl]
    refine e_wrong 1 (by decide) rfl ?_
    unfold E_X7_meals
    refine i_ok hn ?_
    rw [if_neg (by decide)]
    refine hm_no hk ?_
    rw [if_pos rfl]
    exact e_error 1 (by decide) rfl ⟨rfl, (R.err 1 (by decide)).up⟩
  refine hc_ok hk ?_
  rw [if_neg (by decide), show SC.1 3 3 = H.1.2.1 from h1.1.2.1]
  have rg := rg_of (m := 99) rfl (by decide) hk
  have hd := h3.2.2.1
  obtain ⟨m, hm60, rfl⟩ := win_nI (x := x1) (b := 60) (m := 60) rfl (by decide) ⟨fun q => hn.1 (Int32.lt_iff_toInt_lt.mpr (by have := Int32.lt_iff_toInt_lt.mp q; rw [Int32.toInt_zero] at this; rw [show (1 : Int32).toInt = 1 by decide]; omega)), hn.2⟩
  have em : (nI m).toInt = m := nI_toInt (by omega)
  have es : (H.1.2.1 + nI m).toInt = H.1.2.1.toInt + m := by rw [add_sm hd.1 (by omega) (by omega) (by omega), em]
  by_cases e : H.1.2.1 + nI m ≤ 9999
  · rw [if_pos e]
    have e2 := Int32.le_iff_toInt_le.mp e
    rw [es, show (9999 : Int32).toInt = 9999 by decide] at e2
    refine e_pass (Or.inl rfl) hm60 rfl h3.1 h1.1 hLC h3.2.1 rg.1 rg.2 (fun SC1 hF hT => ?_)
    have hI := mealsT_inv (L := H.2.1) rg.1 rg.2 m H.1 h3.1
    refine e_X4_left hT hI.1.1 ?_
    unfold E_X7_meals
    refine i_ok hn ?_
    rw [if_neg (by decide)]
    refine hm_ok hk ?_
    rw [if_neg (by decide), show (0 : Int32).toNatClampNeg = 0 by decide, show SM.2 17 0 0 = H.1.2.1 from h2.1.2.1, if_pos e]
    refine ⟨v0, e_goes hm60 rfl h3.1 h2.1 h2.2.1 h3.2.1 rg.1 rg.2 (fun SM1 hM hT2 => e_X7_allLeft hT2 hI.1.1 ⟨rfl, R.tab h1 h2 h3 hF hM hT hT2 hI.1 ?_⟩)⟩
    rw [mealsT_day m H.1 hd.1 (by omega)]
    omega
  · rw [if_neg e]
    refine e_wrong 3 (by decide) rfl ?_
    unfold E_X7_meals
    refine i_ok hn ?_
    rw [if_neg (by decide)]
    refine hm_ok hk ?_
    rw [if_neg (by decide), show (0 : Int32).toNatClampNeg = 0 by decide, show SM.2 17 0 0 = H.1.2.1 from h2.1.2.1, if_neg e]
    exact ⟨v0, e_error 3 (by decide) rfl ⟨rfl, (R.err 3 (by decide)).up⟩⟩
theorem hsC_1 {S S1 : St} {H : HS} {z : Int32} (b : hsC S 1 H) (e1 : ∀ o k, o ≠ 1 → S1.1 o k = S.1 o k) (e2 : ∀ o k, o ≠ 1 → S1.2 o k = S.2 o k) (ez : S1.1 1 7 = z) (tp ws : List Int32) (et : S1.1 1 4 = nI tp.length ∧ ∀ (j : Nat) (v : Int32), tp[j]? = some v → S1.2 1 3 j = v) (ew : S1.1 1 6 = nI ws.length ∧ ∀ (j : Nat) (v : Int32), ws[j]? = some v → S1.2 1 5 j = v) : hsC S1 1 (H.1, H.2.1, z, tp, ws) := by
  obtain ⟨b1, b2, b3, -, -, -⟩ := b
  unfold tbC lwC at *
  refine ⟨?_, ?_, ?_, ez, et, ew⟩
  · unfold tbC
    simp only [e1 (1 + 2) _ (by decide), e2 (1 + 2) _ (by decide)]
    exact b1
  · unfold lwC
    simp only [e1 (4 + 2 * 1) _ (by decide), e2 (4 + 2 * 1) _ (by decide)]
    exact b2
  · unfold lwC
    simp only [e1 (5 + 2 * 1) _ (by decide), e2 (5 + 2 * 1) _ (by decide)]
    exact b3
/-- the row's cells that a table and the laws are read off are as they were -/
theorem hsM_1 {S S1 : St} {H : HS} {z : Int32} (b : hsM S H) (e : ∀ i, (i = 0 ∨ i = 1 ∨ (5 ≤ i ∧ i < 303)) → S1.2 17 0 i = S.2 17 0 i) (h9 : InvH H) (ez : S1.2 17 0 2 = z) (tp ws : List Int32) (et : S1.2 17 0 3 = nI tp.length ∧ ∀ (j : Nat) (v : Int32), tp[j]? = some v → S1.2 17 0 (303 + j) = v) (ew : S1.2 17 0 4 = nI ws.length ∧ ∀ (j : Nat) (v : Int32), ws[j]? = some v → S1.2 17 0 (363 + j) = v) : hsM S1 (H.1, H.2.1, z, tp, ws) := by
  obtain ⟨b1, ⟨b2, b3⟩, -, -, -⟩ := b
  have n9 := h9.1.1
  have l0 := h9.2.1.1.1
  have l1 := h9.2.1.2.1
  refine ⟨⟨by rw [e _ (by omega)]; exact b1.1, by rw [e _ (by omega)]; exact b1.2.1, by rw [e _ (by omega)]; exact b1.2.2.1, fun w d hw hd => by
    have hd : d < H.1.1 := hd
    rw [e _ (by omega)]
    exact b1.2.2.2 w d hw hd⟩, ⟨⟨by rw [e _ (by omega)]; exact b2.1, fun j t hj => ?_⟩, ⟨by rw [e _ (by omega)]; exact b3.1, fun j t hj => ?_⟩⟩, ez, et, ew⟩
  · have hjl : j < H.2.1.1.length := (List.getElem?_eq_some_iff.mp hj).1
    rw [e _ (by omega), e _ (by omega)]
    exact b2.2 j t hj
  · have hjl : j < H.2.1.2.length := (List.getElem?_eq_some_iff.mp hj).1
    rw [e _ (by omega), e _ (by omega)]
    exact b3.2 j t hj
/-- a pair of calls that worked upon z, THE TAPE or what waits -/
theorem Rel.hse {c : Nat} {SC SM SC1 SM1 : St} {H : HS} {z : Int32} {tp ws : List Int32} (R : Rel c SC SM) (h1 : hsC SC 1 H) (h2 : hsM SM H) (h3 : InvH H) (e1 : ∀ o k, o ≠ 1 → SC1.1 o k = SC.1 o k) (e2 : ∀ o k, o ≠ 1 → SC1.2 o k = SC.2 o k) (m1 : SM1.1 = SM.1) (m2 : ∀ k, k ≠ 0 → SM1.2 17 k = SM.2 17 k) (e : ∀ i, (i = 0 ∨ i = 1 ∨ (5 ≤ i ∧ i < 303)) → SM1.2 17 0 i = SM.2 17 0 i) (cz : SC1.1 1 7 = z) (mz : SM1.2 17 0 2 = z) (l1 : tp.length ≤ 60) (l2 : ws.length ≤ 24) (ct : SC1.1 1 4 = nI tp.length ∧ ∀ (j : Nat) (v : Int32), tp[j]? = some v → SC1.2 1 3 j = v) (cw : SC1.1 1 6 = nI ws.length ∧ ∀ (j : Nat) (v : Int32), ws[j]? = some v → SC1.2 1 5 j = v) (mt : SM1.2 17 0 3 = nI tp.length ∧ ∀ (j : Nat) (v : Int32), tp[j]? = some v → SM1.2 17 0 (303 + j) = v) (mw : SM1.2 17 0 4 = nI ws.length ∧ ∀ (j : Nat) (v : Int32), ws[j]? = some v → SM1.2 17 0 (363 + j) = v) : Rel (c + 1) SC1 SM1 :=
  R.work (fun o ho => ⟨fun k => e1 o k (by omega), fun k => e2 o k (by omega)⟩) (by unfold rcon; rw [e1 _ _ (by decide), e1 _ _ (by decide), e1 _ _ (by decide), e1 _ _ (by decide)]; exact R.2.1) (fun k _ => by rw [m1]) (fun k hk => m2 k (by omega)) ⟨(H.1, H.2.1, z, tp, ws), hsC_1 h1 e1 e2 cz tp ws ct cw, hsM_1 h2 e h3 mz tp ws mt mw, h3.1, h3.2.1, h3.2.2.1, l1, l2⟩
theorem f_seed {c : Nat} {SC SM : St} (R : Rel c SC SM) (x1 : Int32) : E_X6_seed x1 SC (fun r SC1 => E_X7_seed x1 SM (RQ c SC1 r)) := by
  obtain ⟨H, h1, h2, h3⟩ := R.1
  unfold E_X6_seed
  simp only [nmI, nmS]
  unfold E_X7_seed
  refine e_change1 (i := 2) (by decide) rfl ⟨?_, ?_⟩
  · rw [show SC.1 1 7 = H.2.2.1 from h1.2.2.2.1, show SM.2 17 0 2 = H.2.2.1 from h2.2.2.1]
  · refine R.hse h1 h2 h3 (z := x1) (tp := H.2.2.2.1) (ws := H.2.2.2.2) (fun o k ho => sI_ne (by omega)) (fun _ _ _ => rfl) rfl (fun k hk => st_ne (by omega)) (fun i hi => by rw [st_same, pk_un (by omega)]) sI_same (by rw [st_same, pk_us]) h3.2.2.2.1 h3.2.2.2.2 ?_ ?_ ?_ ?_
    · rw [sI_ne (by omega)]; exact h1.2.2.2.2.1
    · rw [sI_ne (by omega)]; exact h1.2.2.2.2.2
    · rw [st_same, pk_un (by omega)]
      exact ⟨h2.2.2.2.1.1, fun j v hj => by rw [pk_un (by omega)]; exact h2.2.2.2.1.2 j v hj⟩
    · rw [st_same, pk_un (by omega)]
      exact ⟨h2.2.2.2.2.1, fun j v hj => by rw [pk_un (by omega)]; exact h2.2.2.2.2.2 j v hj⟩
theorem f_count {c : Nat} {SC SM : St} (R : Rel c SC SM) (x1 : Int32) : E_X6_count x1 SC (fun r SC1 => E_X7_count x1 SM (RQ c SC1 r)) := by
  obtain ⟨H, h1, h2, h3⟩ := R.1
  have h9 := h3.1.1
  obtain ⟨tr, t1, t2, t3, t4⟩ := R.2.2.2.2.1
  have v0 : vp_in (0 : Int32) 387 := vp_in_nI (n := 0) (by decide) (by decide)
  have v1 : vp_in (1 : Int32) 387 := vp_in_nI (n := 1) (by decide) (by decide)
  have v2 : vp_in (2 : Int32) 387 := vp_in_nI (n := 2) (by decide) (by decide)
  have v3 : vp_in (3 : Int32) 387 := vp_in_nI (n := 3) (by decide) (by decide)
  have v4 : vp_in (4 : Int32) 387 := vp_in_nI (n := 4) (by decide) (by decide)
  have v5 : vp_in (5 : Int32) 387 := vp_in_nI (n := 5) (by decide) (by decide)
  have md : ∀ r SC1, (if x1 = 0 then (RQ c SC1 r (SM.2 17 0 5) SM) else (if x1 = 1 then (E_X7_allLeft SM (fun v2 S1 => RQ c SC1 r v2 S1)) else (if x1 = 2 then (RQ c SC1 r (SM.2 17 0 0) SM) else (if x1 = 3 then (RQ c SC1 r (SM.2 17 0 1) SM) else (if x1 = 4 then (RQ c SC1 r (SM.2 17 0 3) SM) else (if x1 = 5 then (RQ c SC1 r (SM.2 17 0 4) SM) else (if x1 = 6 then (RQ c SC1 r (SM.1 17 14) SM) else (if x1 = 7 then (RQ c SC1 r (SM.2 17 0 2) SM) else (E_X7_error 1 SM (fun v4 S3 => RQ c SC1 r v4 S3)))))))))) → E_X7_count x1 SM (RQ c SC1 r) := by
    intro r SC1 h
    unfold E_X7_count
    rw [show (0 : Int32).toNatClampNeg = 0 by decide, show (1 : Int32).toNatClampNeg = 1 by decide, show (2 : Int32).toNatClampNeg = 2 by decide, show (3 : Int32).toNatClampNeg = 3 by decide, show (4 : Int32).toNatClampNeg = 4 by decide, show (5 : Int32).toNatClampNeg = 5 by decide]
    simp only [v0, v1, v2, v3, v4, v5, true_and]
    exact h
  unfold E_X6_count
  by_cases c0 : x1 = 0
  · rw [if_pos c0]; refine md _ _ ?_; rw [if_pos c0]
    exact ⟨h1.1.1.trans h2.1.1.symm, R.up⟩
  rw [if_neg c0]
  by_cases c1 : x1 = 1
  · rw [if_pos c1]
    refine e_X4_left h1.1 h9 (md _ _ ?_)
    rw [if_neg c0, if_pos c1]
    exact e_X7_allLeft h2.1 h9 ⟨rfl, R.up⟩
  rw [if_neg c1]
  by_cases c2 : x1 = 2
  · rw [if_pos c2]; refine md _ _ ?_; rw [if_neg c0, if_neg c1, if_pos c2]
    exact ⟨h1.1.2.1.trans h2.1.2.1.symm, R.up⟩
  rw [if_neg c2]
  by_cases c3 : x1 = 3
  · rw [if_pos c3]; refine md _ _ ?_; rw [if_neg c0, if_neg c1, if_neg c2, if_pos c3]
    exact ⟨h1.1.2.2.1.trans h2.1.2.2.1.symm, R.up⟩
  rw [if_neg c3]
  by_cases c4 : x1 = 4
  · rw [if_pos c4]; refine md _ _ ?_; rw [if_neg c0, if_neg c1, if_neg c2, if_neg c3, if_pos c4]
    exact ⟨h1.2.2.2.2.1.1.trans h2.2.2.2.1.1.symm, R.up⟩
  rw [if_neg c4]
  by_cases c5 : x1 = 5
  · rw [if_pos c5]; refine md _ _ ?_; rw [if_neg c0, if_neg c1, if_neg c2, if_neg c3, if_neg c4, if_pos c5]
    exact ⟨h1.2.2.2.2.2.1.trans h2.2.2.2.2.1.symm, R.up⟩
  rw [if_neg c5]
  by_cases c6 : x1 = 6
  · rw [if_pos c6]; refine md _ _ ?_; rw [if_neg c0, if_neg c1, if_neg c2, if_neg c3, if_neg c4, if_neg c5, if_pos c6]
    exact ⟨t2.trans t3.symm, R.up⟩
  rw [if_neg c6]
  by_cases c7 : x1 = 7
  · rw [if_pos c7]; refine md _ _ ?_; rw [if_neg c0, if_neg c1, if_neg c2, if_neg c3, if_neg c4, if_neg c5, if_neg c6, if_pos c7]
    exact ⟨h1.2.2.2.1.trans h2.2.2.1.symm, R.up⟩
  rw [if_neg c7]
  refine e_wrong 1 (by decide) rfl (md _ _ ?_)
  rw [if_neg c0, if_neg c1, if_neg c2, if_neg c3, if_neg c4, if_neg c5, if_neg c6, if_neg c7]
  exact e_error 1 (by decide) rfl ⟨rfl, (R.err 1 (by decide)).up⟩
theorem f_told {c : Nat} {SC SM : St} (R : Rel c SC SM) (x1 : Int32) : E_X6_told x1 SC (fun r SC1 => E_X7_told x1 SM (RQ c SC1 r)) := by
  unfold E_X6_told
  rcases win x1 1 6 with hk | hk
  · refine w_no hk ?_
    rw [if_pos rfl]
    refine e_wrong 1 (by decide) rfl ?_
    unfold E_X7_told
    refine i_no hk ?_
    rw [if_pos rfl]
    exact e_error 1 (by decide) rfl ⟨rfl, (R.err 1 (by decide)).up⟩
  refine w_ok hk ?_
  obtain ⟨m, hm, rfl⟩ := win_nI (x := x1) (b := 6) (m := 6) rfl (by decide) ⟨fun q => hk.1 (Int32.lt_iff_toInt_lt.mpr (by have := Int32.lt_iff_toInt_lt.mp q; rw [Int32.toInt_zero] at this; rw [show (1 : Int32).toInt = 1 by decide]; omega)), hk.2⟩
  rw [if_neg (by decide), nI_clamp (by omega)]
  have hv : vp_in (nI m) 7 := vp_in_nI (by omega) (by decide)
  refine ⟨hv, ?_⟩
  unfold E_X7_told
  refine i_ok hk ?_
  rw [if_neg (by decide), nI_clamp (by omega)]
  exact ⟨hv, R.2.2.2.1 m (by omega), R.up⟩
theorem f_body {c : Nat} {SC SM : St} (R : Rel c SC SM) (x1 : Int32) : E_X6_body x1 SC (fun r SC1 => E_X7_body x1 SM (RQ c SC1 r)) := by
  obtain ⟨tr, t1, t2, t3, t4⟩ := R.2.2.2.2.1
  unfold E_X6_body
  rw [t2]
  rcases win x1 0 (nI tr.length - 1) with hk | hk
  · refine w_no hk ?_
    rw [if_pos rfl]
    refine e_wrong 2 (by decide) rfl ?_
    unfold E_X7_body
    rw [t3]
    refine i_no hk ?_
    rw [if_pos rfl]
    exact e_error 2 (by decide) rfl ⟨rfl, (R.err 2 (by decide)).up⟩
  refine w_ok hk ?_
  rcases pk_ix x1 (n := tr.length) (by omega) with hx | hx | ⟨m, hm, rfl⟩
  · exact absurd hx hk.1
  · exact absurd ((nI_m1 (by omega)).mpr hx) hk.2
  rw [if_neg (by decide), nI_clamp (by omega)]
  have hv : vp_in (nI m) 30 := vp_in_nI (by omega) (by decide)
  refine ⟨hv, ?_⟩
  unfold E_X7_body
  rw [t3]
  refine i_ok hk ?_
  rw [if_neg (by decide), nI_clamp (by omega)]
  obtain ⟨a, b⟩ := t4 m _ (List.getElem?_eq_getElem hm)
  exact ⟨hv, a.trans b.symm, R.up⟩
