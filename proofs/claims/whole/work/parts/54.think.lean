/-! WHAT WOULD BE: a table taken over, a row laid down and laid back -/
theorem e_take {S : St} {Q : St → Prop} {o p : Nat} {T : TB} (hop : o ≠ p) (hb : tbC S p T) (h9 : T.1 ≤ 9) (h : ∀ S1, FrO o S S1 → (∀ k, k ≤ 4 → k ≠ 2 → k ≠ 3 → k ≠ 4 → S1.1 o k = S.1 o k) → tbC S1 o T → Q S1) : E_X4_takeFrom o p S Q := by
  unfold E_X4_takeFrom
  simp only [nmS]
  have key : ∀ (n i : Nat) (S1 : St), i + n = T.1 → FrO o S S1 → (∀ k, k ≤ 4 → k ≠ 2 → k ≠ 3 → k ≠ 4 → S1.1 o k = S.1 o k) → S1.1 o 2 = nI T.1 → S1.1 o 3 = T.2.1 → S1.1 o 4 = T.2.2.1 → (∀ k, S1.2 p k = S.2 p k) → (∀ w d, w < 5 → d < i → S1.2 o (5 + w) d = T.2.2.2 w d) → L_X4_takeFrom_26 o p Q (n + 1) (nI i) S1 := by
    intro n
    induction n with
    | zero =>
      intro i S1 hi hF hi1 e2 e3 e4 hp hr
      unfold L_X4_takeFrom_26
      have e : i = T.1 := by omega
      rw [e2, e, if_pos (nI_le (Nat.le_refl _) (by omega))]
      exact h S1 hF hi1 ⟨e2, e3, e4, fun w d hw hd => hr w d hw (by omega)⟩
    | succ n ih =>
      intro i S1 hi hF hi1 e2 e3 e4 hp hr
      have hi2 : i < T.1 := by omega
      have hv : vp_in (nI i) 9 := vp_in_nI (by omega) (by decide)
      have q : ∀ w, w < 5 → S1.2 p (5 + w) i = T.2.2.2 w i := fun w hw => by rw [hp]; exact hb.2.2.2 w i hw hi2
      have q0 : S1.2 p 5 i = T.2.2.2 0 i := q 0 (by decide)
      have q1 : S1.2 p 6 i = T.2.2.2 1 i := q 1 (by decide)
      have q2 : S1.2 p 7 i = T.2.2.2 2 i := q 2 (by decide)
      have q3 : S1.2 p 8 i = T.2.2.2 3 i := q 3 (by decide)
      have q4 : S1.2 p 9 i = T.2.2.2 4 i := q 4 (by decide)
      unfold L_X4_takeFrom_26
      rw [e2, if_neg (nI_ge hi2 (by omega)), nI_clamp (by omega)]
      simp only [nmS, nmI]
      refine ⟨hv, hv, hv, hv, hv, hv, hv, hv, hv, hv, ?_⟩
      rw [nI_1]
      have np : ∀ (X : St) (k j : Nat) (f : Nat → Int32), (stR X o k f).2 p j = X.2 p j := fun X k j f => st_ne (fun e => hop e.1.symm)
      simp only [np]
      rw [q0, q1, q2, q3, q4]
      refine ih (i + 1) _ (by omega) (hF.tr ((((FrO.row.tr FrO.row).tr FrO.row).tr FrO.row).tr FrO.row)) hi1 e2 e3 e4 (fun k => by rw [np, np, np, np, np]; exact hp k) (fun w d hw hd => ?_)
      rcases (show w = 0 ∨ w = 1 ∨ w = 2 ∨ w = 3 ∨ w = 4 by omega) with rfl | rfl | rfl | rfl | rfl
      · rw [st_ne (by omega), st_ne (by omega), st_ne (by omega), st_ne (by omega), st_same]
        by_cases e : d = i
        · rw [e, pk_us]
        · rw [pk_un e]; exact hr 0 d (by decide) (by omega)
      · rw [st_ne (by omega), st_ne (by omega), st_ne (by omega), st_same, st_ne (by omega)]
        by_cases e : d = i
        · rw [e, pk_us]
        · rw [pk_un e]; exact hr 1 d (by decide) (by omega)
      · rw [st_ne (by omega), st_ne (by omega), st_same, st_ne (by omega), st_ne (by omega)]
        by_cases e : d = i
        · rw [e, pk_us]
        · rw [pk_un e]; exact hr 2 d (by decide) (by omega)
      · rw [st_ne (by omega), st_same, st_ne (by omega), st_ne (by omega), st_ne (by omega)]
        by_cases e : d = i
        · rw [e, pk_us]
        · rw [pk_un e]; exact hr 3 d (by decide) (by omega)
      · rw [st_same, st_ne (by omega), st_ne (by omega), st_ne (by omega), st_ne (by omega)]
        by_cases e : d = i
        · rw [e, pk_us]
        · rw [pk_un e]; exact hr 4 d (by decide) (by omega)
  refine ⟨T.1 + 1, key T.1 0 _ (by omega) ((FrO.int.tr FrO.int).tr FrO.int) (fun k _ h2 h3 h4 => by rw [sI_ne (by omega), sI_ne (by omega), sI_ne (by omega)]) ?_ ?_ ?_ (fun _ => rfl) (fun w d _ hd => absurd hd (by omega))⟩
  · rw [sI_ne (by omega), sI_ne (by omega), sI_same]; exact hb.1
  · rw [sI_ne (by omega), sI_same, sI_ne (by omega)]; exact hb.2.1
  · rw [sI_same, sI_ne (by omega), sI_ne (by omega)]; exact hb.2.2.1
theorem e_layDown {S : St} {Q : St → Prop} (h : ∀ g, (∀ i, i < 53 → g i = S.2 17 0 i) → Q (stR S 17 2 g)) : E_X7_layDown S Q := by
  have key : ∀ (n i : Nat) (g : Nat → Int32), i + n = 53 → (∀ j, j < i → g j = S.2 17 0 j) → L_X7_layDown_2 Q (n + 1) (nI i) (stR S 17 2 g) := by
    intro n
    induction n with
    | zero =>
      intro i g hi hg
      unfold L_X7_layDown_2
      rw [show i = 53 by omega, if_pos (by decide)]
      exact h g (fun j hj => hg j (by omega))
    | succ n ih =>
      intro i g hi hg
      unfold L_X7_layDown_2
      rw [if_neg (show ¬ (53 : Int32) ≤ nI i from nI_ge (a := i) (b := 53) (by omega) (by decide)), nI_clamp (by omega)]
      refine ⟨vp_in_nI (by omega) (by decide), vp_in_nI (by omega) (by decide), ?_⟩
      simp only [nmS, nmI]
      rw [nI_1, st_same, st_st, st_ne (by omega)]
      refine ih (i + 1) _ (by omega) (fun j hj => ?_)
      by_cases e : j = i
      · rw [e, pk_us]
      · rw [pk_un e]; exact hg j (by omega)
  refine ⟨54, ?_⟩
  have := key 53 0 (S.2 17 2) (by omega) (fun j hj => absurd hj (by omega))
  rw [st_self] at this
  exact this
theorem e_layBack {S : St} {Q : St → Prop} (h : Q (stR S 17 0 (fun i => if i < 53 then S.2 17 2 i else S.2 17 0 i))) : E_X7_layBack S Q := by
  have key : ∀ (n i : Nat), i + n = 53 → L_X7_layBack_2 Q (n + 1) (nI i) (stR S 17 0 (fun j => if j < i then S.2 17 2 j else S.2 17 0 j)) := by
    intro n
    induction n with
    | zero =>
      intro i hi
      unfold L_X7_layBack_2
      have e : i = 53 := by omega
      subst e
      rw [if_pos (by decide)]
      exact h
    | succ n ih =>
      intro i hi
      unfold L_X7_layBack_2
      rw [if_neg (show ¬ (53 : Int32) ≤ nI i from nI_ge (a := i) (b := 53) (by omega) (by decide)), nI_clamp (by omega)]
      refine ⟨vp_in_nI (by omega) (by decide), vp_in_nI (by omega) (by decide), ?_⟩
      simp only [nmS, nmI]
      rw [nI_1, st_same, st_st, st_ne (by omega)]
      have e : upd (fun j => if j < i then S.2 17 2 j else S.2 17 0 j) i (S.2 17 2 i) = fun j => if j < i + 1 then S.2 17 2 j else S.2 17 0 j := by
        funext j
        unfold upd
        by_cases e : j = i
        · rw [if_pos e, e, if_pos (Nat.lt_succ_self i)]
        · rw [if_neg e]
          dsimp only
          by_cases e2 : j < i
          · rw [if_pos e2, if_pos (show j < i + 1 by omega)]
          · rw [if_neg e2, if_neg (show ¬ j < i + 1 by omega)]
      rw [e]
      exact ih (i + 1) (by omega)
  refine ⟨54, ?_⟩
  have := key 53 0 (by omega)
  rw [show (fun j => if j < 0 then S.2 17 2 j else S.2 17 0 j) = S.2 17 0 from by funext j; rw [if_neg (Nat.not_lt_zero j)], st_self] at this
  exact this
/-- but for the reference's scratch rows, the laid row among them -/
def FrL (S S1 : St) : Prop := S1.1 = S.1 ∧ ∀ o k, ¬ (o = 17 ∧ (k = 2 ∨ (10 ≤ k ∧ k ≤ 13))) → S1.2 o k = S.2 o k
theorem FrL.rf {S : St} : FrL S S := ⟨rfl, fun _ _ _ => rfl⟩
theorem FrL.tr {S S1 S2 : St} (h : FrL S S1) (g : FrL S1 S2) : FrL S S2 := ⟨g.1.trans h.1, fun o k q => (g.2 o k q).trans (h.2 o k q)⟩
theorem FrG.l {S S1 : St} (h : FrG S S1) : FrL S S1 := ⟨h.1, fun o k q => h.2 o k (fun e => q ⟨e.1, Or.inr e.2⟩)⟩
theorem FrL.tb {S S1 : St} {T : TB} (h : FrL S S1) (b : tbM S T) : tbM S1 T := by
  unfold tbM at *
  rw [h.2 17 0 (by omega)]
  exact b
theorem FrL.lw {S S1 : St} {L : List Int32 × List Int32} (h : FrL S S1) (b : lawsM S L) : lawsM S1 L := by
  unfold lawsM lwM at *
  rw [h.2 17 0 (by omega)]
  exact b
theorem lay_tb {S : St} {T : TB} {g : Nat → Int32} (b : tbM S T) : tbM (stR S 17 2 g) T := by
  unfold tbM at *
  rw [st_ne (by omega)]
  exact b
theorem lay_lw {S : St} {L : List Int32 × List Int32} {g : Nat → Int32} (b : lawsM S L) : lawsM (stR S 17 2 g) L := by
  unfold lawsM lwM at *
  rw [st_ne (by omega)]
  exact b
theorem lay_back {S S1 : St} {g : Nat → Int32} (hg : ∀ i, i < 53 → g i = S.2 17 0 i) (hF : FrM (stR S 17 2 g) S1) : FrL S (stR S1 17 0 (fun i => if i < 53 then S1.2 17 2 i else S1.2 17 0 i)) := by
  refine ⟨hF.1, fun o k q => ?_⟩
  by_cases e : o = 17 ∧ k = 0
  · rw [e.1, e.2, st_same]
    funext i
    by_cases hi : i < 53
    · rw [if_pos hi, hF.2.1 17 2 (by omega), st_same]
      exact hg i hi
    · rw [if_neg hi, hF.2.2 i (by omega), st_ne (by omega)]
  · rw [st_ne e, hF.2.1 o k (by omega), st_ne (by omega)]
/-- a pair of thoughts -/
theorem Rel.think {c : Nat} {SC SM SC1 SM1 : St} (R : Rel c SC SM) (fC : FrO 5 SC SC1) (fM : FrL SM SM1) : Rel c SC1 SM1 := by
  obtain ⟨H, h1, h2, h3⟩ := R.1
  refine R.work0 (fun o ho => ⟨fun k => fC.1 o k (by omega), fun k => fC.2 o k (by omega) (by omega)⟩) (by unfold rcon; rw [fC.1 _ _ (by omega), fC.1 _ _ (by omega), fC.1 _ _ (by omega), fC.1 _ _ (by omega)]; exact R.2.1) (fun k _ => by rw [fM.1]) (fun k hk => fM.2 17 k (by omega)) ⟨H, ?_, hsM_fr h2 (fM.2 17 0 (by omega)), h3⟩
  obtain ⟨b1, b2, b3, b4, b5, b6⟩ := h1
  refine ⟨?_, ?_, ?_, ?_, ?_, ?_⟩
  · refine ⟨by rw [fC.1 _ _ (by omega)]; exact b1.1, by rw [fC.1 _ _ (by omega)]; exact b1.2.1, by rw [fC.1 _ _ (by omega)]; exact b1.2.2.1, fun w d hw hd => by rw [fC.2 _ _ (by omega) (by omega)]; exact b1.2.2.2 w d hw hd⟩
  · unfold lwC at *; rw [fC.1 _ _ (by omega), fC.2 _ _ (by omega) (by omega)]; exact b2
  · unfold lwC at *; rw [fC.1 _ _ (by omega), fC.2 _ _ (by omega) (by omega)]; exact b3
  · rw [fC.1 _ _ (by omega)]; exact b4
  · rw [fC.1 _ _ (by omega), fC.2 _ _ (by omega) (by omega)]; exact b5
  · rw [fC.1 _ _ (by omega), fC.2 _ _ (by omega) (by omega)]; exact b6
theorem FrO.lw {S S1 : St} {L : List Int32 × List Int32} (h : FrO 5 S S1) (b : lawsC S L) : lawsC S1 L := by
  unfold lawsC lwC at *
  rw [h.1 6 4 (by omega), h.1 6 0 (by omega), h.1 6 1 (by omega), h.1 7 4 (by omega), h.1 7 0 (by omega), h.1 7 1 (by omega), h.2 6 2 (by omega) (by omega), h.2 7 2 (by omega) (by omega)]
  exact b
theorem FrO.tb {S S1 : St} {T : TB} (h : FrO 5 S S1) (b : tbC S 3 T) : tbC S1 3 T := ⟨by rw [h.1 _ _ (by omega)]; exact b.1, by rw [h.1 _ _ (by omega)]; exact b.2.1, by rw [h.1 _ _ (by omega)]; exact b.2.2.1, fun w d hw hd => by rw [h.2 _ _ (by omega) (by omega)]; exact b.2.2.2 w d hw hd⟩
theorem f_then {c : Nat} {SC SM : St} (R : Rel c SC SM) (x1 x2 x3 : Int32) : E_X6_then x1 x2 x3 SC (fun r SC1 => E_X7_then x1 x2 x3 SM (RQ c SC1 r)) := by
  obtain ⟨H, h1, h2, h3⟩ := R.1
  have h9 := h3.1.1
  have hLC := lawsC_of h1 R.2.1
  unfold E_X6_then
  rcases win x1 0 60 with hn | hn
  · refine w_no hn ?_
    rw [if_pos rfl]
    refine e_wrong 1 (by decide) rfl ?_
    unfold E_X7_then
    refine i_no hn ?_
    rw [if_pos rfl]
    exact e_error 1 (by decide) rfl ⟨rfl, (R.err 1 (by decide)).up⟩
  refine w_ok hn ?_
  rw [if_neg (by decide)]
  rcases win x2 0 99 with hk | hk
  · refine hc_no hk ?_
    rw [if_pos rfl]
    refine e_wrong 1 (by decide) rfl ?_
    unfold E_X7_then
    refine i_ok hn ?_
    rw [if_neg (by decide)]
    refine hm_no hk ?_
    rw [if_pos rfl]
    exact e_error 1 (by decide) rfl ⟨rfl, (R.err 1 (by decide)).up⟩
  refine hc_ok hk ?_
  rw [if_neg (by decide)]
  rcases win x3 0 1 with hw | hw
  · refine w_no hw ?_
    rw [if_pos rfl]
    refine e_wrong 1 (by decide) rfl ?_
    unfold E_X7_then
    refine i_ok hn ?_
    rw [if_neg (by decide)]
    refine hm_ok hk ?_
    rw [if_neg (by decide)]
    refine i_no hw ?_
    rw [if_pos rfl]
    exact e_error 1 (by decide) rfl ⟨rfl, (R.err 1 (by decide)).up⟩
  refine w_ok hw ?_
  rw [if_neg (by decide)]
  have rg := rg_of (m := 99) rfl (by decide) hk
  obtain ⟨m, hm60, rfl⟩ := win_nI (b := 60) (m := 60) rfl (by decide) hn
  have hI := mealsT_inv (L := H.2.1) rg.1 rg.2 m H.1 h3.1
  refine e_take (by decide) h1.1 h9 (fun SC1 f1 _ t1 => ?_)
  refine e_pass (Or.inr rfl) hm60 rfl h3.1 t1 (f1.lw hLC) h3.2.1 rg.1 rg.2 (fun SC2 f2 t2 => ?_)
  have md : ∀ r SC3, (∀ (g : Nat → Int32) (S12 : St), (∀ i, i < 53 → g i = SM.2 17 0 i) → FrM (stR SM 17 2 g) S12 → tbM S12 (mealsT H.2.1 x2 m H.1) → (if x3 = 0 then (E_X7_allLeft S12 (fun v17 S16 => E_X7_layBack S16 (fun S18 => RQ c SC3 r v17 S18))) else (E_X7_findRuler S12 (fun v14 S13 => E_X7_layBack S13 (fun S15 => RQ c SC3 r v14 S15))))) → E_X7_then (nI m) x2 x3 SM (RQ c SC3 r) := by
    intro r SC3 h
    unfold E_X7_then
    refine i_ok hn ?_
    rw [if_neg (by decide)]
    refine hm_ok hk ?_
    rw [if_neg (by decide)]
    refine i_ok hw ?_
    rw [if_neg (by decide)]
    refine e_layDown (fun g hg => e_goes hm60 rfl h3.1 (lay_tb h2.1) (lay_lw h2.2.1) h3.2.1 rg.1 rg.2 (fun S12 fM tM => h g S12 hg fM tM))
  by_cases e : x3 = 0
  · rw [if_pos e]
    refine e_X4_left t2 hI.1.1 (md _ _ (fun g S12 hg fM tM => ?_))
    rw [if_pos e]
    exact e_X7_allLeft tM hI.1.1 (e_layBack ⟨rfl, (R.think (f1.tr f2.o) (lay_back hg fM)).up⟩)
  · rw [if_neg e]
    refine e_X4_sayer (Or.inr rfl) t2 (f2.lw (Or.inr rfl) (f1.lw hLC)) h3.2.1 hI.1.1 (fun SC3 f3 _ => md _ _ (fun g S12 hg fM tM => ?_))
    rw [if_neg e]
    refine e_X7_findRuler tM (fM.lw (lay_lw h2.2.1)) h3.2.1 hI.1.1 (fun S13 fG _ => e_layBack ⟨rfl, (R.think ((f1.tr f2.o).tr f3.t.o) (lay_back hg (fM.tr fG.m))).up⟩)
