/-! PAIRS OF CALLS: gone, needs -/
def goneN (L : List Int32 × List Int32) (h : Int32) (d : Nat) : Nat → Nat → TB → Option Nat
  | 0, _, _ => none
  | n + 1, i, T => if T.2.2.2 2 d = 0 then some i else goneN L h d n (i + 1) (mealT L T h).2
theorem goneN_lt {L : List Int32 × List Int32} {h : Int32} {d : Nat} : ∀ {n i : Nat} {T : TB} {b : Nat}, goneN L h d n i T = some b → b < i + n := by
  intro n
  induction n with
  | zero => intro i T b hb; cases hb
  | succ n ih =>
    intro i T b hb
    unfold goneN at hb
    split at hb
    · cases hb; omega
    · have := ih hb; omega
theorem f_gone {c : Nat} {SC SM : St} (R : Rel c SC SM) (x1 x2 : Int32) : E_X6_gone x1 x2 SC (fun r SC1 => E_X7_gone x1 x2 SM (RQ c SC1 r)) := by
  obtain ⟨H, h1, h2, h3⟩ := R.1
  have h9 := h3.1.1
  have hLC := lawsC_of h1 R.2.1
  unfold E_X6_gone
  rcases pk_ix x1 (n := H.1.1) (by omega) with hx | hx | ⟨d, hd, rfl⟩
  · refine has_no h1.1.1 (Or.inl hx) ?_
    rw [if_pos rfl]
    refine e_wrong 1 (by decide) rfl ?_
    unfold E_X7_gone
    refine dis_no h2.1.1 h9 (Or.inl hx) ?_
    rw [if_pos rfl]
    exact e_error 1 (by decide) rfl ⟨rfl, (R.err 1 (by decide)).up⟩
  · refine has_no h1.1.1 (Or.inr hx) ?_
    rw [if_pos rfl]
    refine e_wrong 1 (by decide) rfl ?_
    unfold E_X7_gone
    refine dis_no h2.1.1 h9 (Or.inr hx) ?_
    rw [if_pos rfl]
    exact e_error 1 (by decide) rfl ⟨rfl, (R.err 1 (by decide)).up⟩
  refine has_ok h1.1.1 h9 hd ?_
  rw [if_neg (by decide)]
  rcases win x2 0 99 with hk | hk
  · refine hc_no hk ?_
    rw [if_pos rfl]
    refine e_wrong 1 (by decide) rfl ?_
    unfold E_X7_gone
    refine dis_ok h2.1.1 h9 hd ?_
    rw [if_neg (by decide)]
    refine hm_no hk ?_
    rw [if_pos rfl]
    exact e_error 1 (by decide) rfl ⟨rfl, (R.err 1 (by decide)).up⟩
  refine hc_ok hk ?_
  rw [if_neg (by decide)]
  have rg := rg_of (m := 99) rfl (by decide) hk
  obtain ⟨G, hG⟩ : ∃ G, G = goneN H.2.1 x2 d 61 0 H.1 := ⟨_, rfl⟩
  have mod : ∀ (SC1 : St) (r : Int32), (∀ b, G = some b → r = nI b ∧ ∀ SM1, FrL SM SM1 → Rel c SC1 SM1) → (G = none → ∃ SC0, SC1 = erC SC0 2 ∧ r = (-1000000000) - 2 ∧ ∀ SM1, FrL SM SM1 → Rel c SC0 SM1) → E_X7_gone (nI d) x2 SM (RQ c SC1 r) := by
    intro SC1 r hs hn
    unfold E_X7_gone
    refine dis_ok h2.1.1 h9 hd ?_
    rw [if_neg (by decide)]
    refine hm_ok hk ?_
    rw [if_neg (by decide)]
    refine e_layDown (fun g hg => ?_)
    have key : ∀ (n i : Nat) (T1 : TB) (S1 : St), i + n = 61 → InvT T1 → T1.1 = H.1.1 → FrM (stR SM 17 2 g) S1 → tbM S1 T1 → goneN H.2.1 x2 d n i T1 = G → L_X7_gone_27 (RQ c SC1 r) (n + 1) (nI d) x2 (nI i) S1 := by
      intro n
      induction n with
      | zero =>
        intro i T1 S1 hi hI1 hN hF hb1 he
        have e : i = 61 := by omega
        subst e
        unfold L_X7_gone_27
        rw [if_pos (by decide)]
        refine e_layBack ?_
        rw [if_neg (by decide)]
        obtain ⟨SC0, e1, e2, e3⟩ := hn (by rw [← he]; rfl)
        subst e1
        exact e_error 2 (by decide) rfl ⟨e2, ((e3 _ (lay_back hg hF)).err 2 (by decide)).up⟩
      | succ n ih =>
        intro i T1 S1 hi hI1 hN hF hb1 he
        have hi60 : i ≤ 60 := by omega
        unfold L_X7_gone_27
        rw [if_neg (show ¬ (60 : Int32) < nI i from nI_nlt (a := 60) (b := i) hi60 (by decide))]
        refine e_its (w := 2) (by omega) (by decide) rfl ?_
        rw [hb1.2.2.2 2 d (by decide) (by omega)]
        have z0 := (hI1.2.2 d (by omega) 2 (by decide)).1
        unfold goneN at he
        by_cases hz : T1.2.2.2 2 d = 0
        · rw [if_pos hz] at he
          rw [if_pos (by rw [hz]; decide)]
          refine e_layBack ?_
          rw [if_pos (show nI i ≤ 60 from nI_le (b := 60) hi60 (by decide))]
          exact ⟨(hs i he.symm).1, ((hs i he.symm).2 _ (lay_back hg hF)).up⟩
        · rw [if_neg hz] at he
          rw [if_neg (fun q => hz (Int32.toInt_inj.mp (by have := Int32.le_iff_toInt_le.mp q; rw [Int32.toInt_zero] at this ⊢; omega)))]
          refine e_aMeal hI1 hb1 (hF.lw (lay_lw h2.2.1)) h3.2.1 rg.1 rg.2 (fun S2 hF2 hb2 => ?_)
          simp only [nmI]
          rw [nI_1]
          obtain ⟨i1, -, -, i2⟩ := mealT_inv (L := H.2.1) hI1 rg.1 rg.2
          exact ih (i + 1) _ S2 (by omega) i1 (i2.trans hN) (hF.tr hF2) hb2 he
    exact ⟨62, key 61 0 H.1 _ (by omega) h3.1 rfl FrM.rf (lay_tb h2.1) hG.symm⟩
  refine e_take (by decide) h1.1 h9 (fun SC1 f1 _ t1 => ?_)
  have key : ∀ (n i : Nat) (T1 : TB) (S1 : St), i + n = 61 → InvT T1 → T1.1 = H.1.1 → FrO 5 SC S1 → tbC S1 5 T1 → goneN H.2.1 x2 d n i T1 = G → L_X6_gone_37 (fun r SC1 => E_X7_gone (nI d) x2 SM (RQ c SC1 r)) (n + 1) (nI d) x2 (nI i) S1 := by
    intro n
    induction n with
    | zero =>
      intro i T1 S1 hi hI1 hN hF hb1 he
      have e : i = 61 := by omega
      subst e
      unfold L_X6_gone_37
      rw [if_pos (by decide)]
      refine e_wrong 2 (by decide) rfl ?_
      have he : none = G := he
      exact mod _ _ (fun b hb => by rw [← he] at hb; cases hb) (fun _ => ⟨S1, rfl, rfl, fun SM1 fL => R.think hF fL⟩)
    | succ n ih =>
      intro i T1 S1 hi hI1 hN hF hb1 he
      have hi60 : i ≤ 60 := by omega
      unfold L_X6_gone_37
      rw [if_neg (show ¬ (60 : Int32) < nI i from nI_nlt (a := 60) (b := i) hi60 (by decide)), nI_clamp (by omega), show S1.2 5 7 d = T1.2.2.2 2 d from hb1.2.2.2 2 d (by decide) (by omega)]
      refine ⟨vp_in_nI (by omega) (by decide), ?_⟩
      unfold goneN at he
      by_cases hz : T1.2.2.2 2 d = 0
      · rw [if_pos hz] at he
        rw [if_pos hz]
        exact mod _ _ (fun b hb => by rw [← he] at hb; cases hb; exact ⟨rfl, fun SM1 fL => R.think hF fL⟩) (fun e => by rw [← he] at e; cases e)
      · rw [if_neg hz] at he
        rw [if_neg hz]
        refine e_dine (Or.inr rfl) hI1 hb1 (hF.lw hLC) h3.2.1 rg.1 rg.2 (fun S2 hF2 hb2 => ?_)
        simp only [nmI]
        rw [nI_1]
        obtain ⟨i1, -, -, i2⟩ := mealT_inv (L := H.2.1) hI1 rg.1 rg.2
        exact ih (i + 1) _ S2 (by omega) i1 (i2.trans hN) (hF.tr hF2.o) hb2 he
  exact ⟨62, key 61 0 H.1 SC1 (by omega) h3.1 rfl f1 t1 hG.symm⟩
def needN (L : List Int32 × List Int32) (m : Nat) (T : TB) : Nat → Nat → Option Nat
  | 0, _ => none
  | n + 1, h => if sumN ((mealsT L (nI h) m T).2.2.2 2) (mealsT L (nI h) m T).1 = 0 then some h else needN L m T n (h + 1)
theorem f_needs {c : Nat} {SC SM : St} (R : Rel c SC SM) (x1 : Int32) : E_X6_needs x1 SC (fun r SC1 => E_X7_needs x1 SM (RQ c SC1 r)) := by
  obtain ⟨H, h1, h2, h3⟩ := R.1
  have h9 := h3.1.1
  have hLC := lawsC_of h1 R.2.1
  unfold E_X6_needs
  rcases win x1 0 20 with hn | hn
  · refine w_no hn ?_
    rw [if_pos rfl]
    refine e_wrong 1 (by decide) rfl ?_
    unfold E_X7_needs
    refine i_no hn ?_
    rw [if_pos rfl]
    exact e_error 1 (by decide) rfl ⟨rfl, (R.err 1 (by decide)).up⟩
  refine w_ok hn ?_
  rw [if_neg (by decide)]
  have hn0 := hn
  obtain ⟨m, hm20, rfl⟩ := win_nI (b := 20) (m := 20) rfl (by decide) hn
  obtain ⟨G, hG⟩ : ∃ G, G = needN H.2.1 m H.1 100 0 := ⟨_, rfl⟩
  have mod : ∀ (SC1 : St) (r : Int32), (∀ b, G = some b → r = nI b ∧ ∀ SM1, FrL SM SM1 → Rel c SC1 SM1) → (G = none → ∃ SC0, SC1 = erC SC0 2 ∧ r = (-1000000000) - 2 ∧ ∀ SM1, FrL SM SM1 → Rel c SC0 SM1) → E_X7_needs (nI m) SM (RQ c SC1 r) := by
    intro SC1 r hs hn
    unfold E_X7_needs
    refine i_ok hn0 ?_
    rw [if_neg (by decide)]
    have key : ∀ (n i : Nat) (S1 : St), i + n = 100 → FrL SM S1 → needN H.2.1 m H.1 n i = G → L_X7_needs_20 (RQ c SC1 r) (n + 2) (nI m) (nI i) 0 S1 := by
      intro n
      induction n with
      | zero =>
        intro i S1 hi hF he
        have e : i = 100 := by omega
        subst e
        unfold L_X7_needs_20
        rw [if_pos rfl, if_pos (by decide), if_pos rfl]
        obtain ⟨SC0, e1, e2, e3⟩ := hn (by rw [← he]; rfl)
        subst e1
        exact e_error 2 (by decide) rfl ⟨e2, ((e3 _ hF).err 2 (by decide)).up⟩
      | succ n ih =>
        intro i S1 hi hF he
        have rg : 0 ≤ (nI i).toInt ∧ (nI i).toInt ≤ 99 := by rw [nI_toInt (by omega)]; omega
        have hI := mealsT_inv (L := H.2.1) rg.1 rg.2 m H.1 h3.1
        unfold L_X7_needs_20
        rw [if_pos rfl, if_neg (show ¬ (100 : Int32) ≤ nI i from nI_ge (a := i) (b := 100) (by omega) (by decide))]
        refine e_layDown (fun g hg => e_goes (by omega) rfl h3.1 (lay_tb (hF.tb h2.1)) (lay_lw (hF.lw h2.2.1)) h3.2.1 rg.1 rg.2 (fun S12 fM tM => e_X7_allLeft tM hI.1.1 ?_))
        simp only [nmI]
        rw [nI_1]
        unfold needN at he
        by_cases hz : sumN ((mealsT H.2.1 (nI i) m H.1).2.2.2 2) (mealsT H.2.1 (nI i) m H.1).1 = 0
        · rw [if_pos hz] at he
          rw [if_pos hz]
          refine e_layBack ?_
          unfold L_X7_needs_20
          rw [if_neg (by decide), if_neg (by decide)]
          refine ⟨?_, ((hs i he.symm).2 _ (hF.tr (lay_back hg fM))).up⟩
          rw [(hs i he.symm).1]
          exact (pk_sub (a := i + 1) (b := 1) (by omega)).symm
        · rw [if_neg hz] at he
          rw [if_neg hz]
          exact e_layBack (ih (i + 1) _ (by omega) (hF.tr (lay_back hg fM)) he)
    exact ⟨102, key 100 0 SM (by omega) FrL.rf hG.symm⟩
  have key : ∀ (n i : Nat) (S1 : St), i + n = 100 → FrO 5 SC S1 → needN H.2.1 m H.1 n i = G → L_X6_needs_18 (fun r SC1 => E_X7_needs (nI m) SM (RQ c SC1 r)) (n + 1) (nI m) (nI i) S1 := by
    intro n
    induction n with
    | zero =>
      intro i S1 hi hF he
      have e : i = 100 := by omega
      subst e
      unfold L_X6_needs_18
      rw [if_pos (by decide)]
      refine e_wrong 2 (by decide) rfl ?_
      have he : none = G := he
      exact mod _ _ (fun b hb => by rw [← he] at hb; cases hb) (fun _ => ⟨S1, rfl, rfl, fun SM1 fL => R.think hF fL⟩)
    | succ n ih =>
      intro i S1 hi hF he
      have rg : 0 ≤ (nI i).toInt ∧ (nI i).toInt ≤ 99 := by rw [nI_toInt (by omega)]; omega
      have hI := mealsT_inv (L := H.2.1) rg.1 rg.2 m H.1 h3.1
      unfold L_X6_needs_18
      rw [if_neg (show ¬ (99 : Int32) < nI i from nI_nlt (a := 99) (b := i) (by omega) (by decide))]
      refine e_take (by decide) (hF.tb h1.1) h9 (fun S2 f2 _ t2 => e_pass (Or.inr rfl) (by omega) rfl h3.1 t2 ((hF.tr f2).lw hLC) h3.2.1 rg.1 rg.2 (fun S3 f3 t3 => e_X4_left t3 hI.1.1 ?_))
      simp only [nmI]
      rw [nI_1]
      have hF3 := (hF.tr f2).tr f3.o
      unfold needN at he
      by_cases hz : sumN ((mealsT H.2.1 (nI i) m H.1).2.2.2 2) (mealsT H.2.1 (nI i) m H.1).1 = 0
      · rw [if_pos hz] at he
        rw [if_pos hz]
        exact mod _ _ (fun b hb => by rw [← he] at hb; cases hb; exact ⟨rfl, fun SM1 fL => R.think hF3 fL⟩) (fun e => by rw [← he] at e; cases e)
      · rw [if_neg hz] at he
        rw [if_neg hz]
        exact ih (i + 1) S3 (by omega) hF3 he
  exact ⟨101, key 100 0 SC (by omega) FrO.rf hG.symm⟩
