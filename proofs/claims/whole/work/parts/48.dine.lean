/-! A MEAL, whole -/
theorem mixF_0 (f : Nat → Nat → Int32) (w d : Nat) : mixF f 0 w d = f w d := by unfold mixF; rw [if_neg (Nat.not_lt_zero d)]
theorem tS_inv {L : List Int32 × List Int32} {T : TB} {h : Int32} (hI : InvT T) (h0 : 0 ≤ h.toInt) (h1 : h.toInt ≤ 99) : InvT (tS T (eatN T.1 (clmD L.1 T) T.1 (T.2.2.2 2) (acM L T) h).1) ∧ 0 ≤ (eatN T.1 (clmD L.1 T) T.1 (T.2.2.2 2) (acM L T) h).2.toInt ∧ (eatN T.1 (clmD L.1 T) T.1 (T.2.2.2 2) (acM L T) h).2.toInt ≤ 99 := by
  obtain ⟨r1, r2⟩ := eatN_rg (N := T.1) (cl := clmD L.1 T) T.1 (T.2.2.2 2) (acM L T) h h0 (fun j hj => (hI.2.2 j hj 2 (by decide)).1)
  refine ⟨⟨hI.1, hI.2.1, fun d hd w hw => ?_⟩, r1.1, by omega⟩
  show 0 ≤ (if w = 2 then _ else T.2.2.2 w d : Int32).toInt ∧ (if w = 2 then _ else T.2.2.2 w d : Int32).toInt ≤ mx w
  by_cases e : w = 2
  · rw [if_pos e]
    have a := r2 d hd
    have b := hI.2.2 d hd 2 (by decide)
    subst e
    exact ⟨a.1, by omega⟩
  · rw [if_neg e]
    exact hI.2.2 d hd w hw
theorem mealT_inv {L : List Int32 × List Int32} {T : TB} {h : Int32} (hI : InvT T) (h0 : 0 ≤ h.toInt) (h1 : h.toInt ≤ 99) : InvT (mealT L T h).2 ∧ 0 ≤ (mealT L T h).1.toInt ∧ (mealT L T h).1.toInt ≤ 99 ∧ (mealT L T h).2.1 = T.1 := by
  obtain ⟨⟨i1, i2, i3⟩, r0, r1⟩ := tS_inv (L := L) hI h0 h1
  refine ⟨⟨i1, ?_, fun d hd w hw => ?_⟩, r0, r1, rfl⟩
  · have := hld_rg 99999 (T.2.2.1 + (eatN T.1 (clmD L.1 T) T.1 (T.2.2.2 2) (acM L T) h).2) (by decide)
    exact this
  · have b := i3 d hd
    show 0 ≤ (agF _ w d).toInt ∧ (agF _ w d).toInt ≤ mx w
    unfold agF
    split
    · exact b w hw
    · split
      · rename_i e
        subst e
        exact hld_rg 999 _ (by decide)
      · split
        · rename_i e
          subst e
          exact hld_rg 99 _ (by decide)
        · exact b w hw
theorem e_X4_eat {t : Nat} {T : TB} {L : List Int32 × List Int32} {h : Int32} {S S0 : St} {Q : Int32 → St → Prop} (ht : t = 3 ∨ t = 5) (hI : InvT T) (hF0 : FrC t S S0) (hb : tbC S t T) (hL : lawsC S L) (hwf : wfL L) (h0 : 0 ≤ h.toInt) (hrow : ∀ j, j < T.1 → S0.2 t 10 j = if T.2.2.2 2 j ≤ 0 then -1 else clmD L.1 T j) (hQ : ∀ S2, FrT t S S2 → tbC S2 t (tS T (eatN T.1 (clmD L.1 T) T.1 (T.2.2.2 2) (acM L T) h).1) → Q (eatN T.1 (clmD L.1 T) T.1 (T.2.2.2 2) (acM L T) h).2 S2) : E_X4_eat t (enc (sayN (T.2.2.2 2) (clmD L.1 T) T.1)) h S0 Q := by
  have h9 := hI.1
  have key : ∀ (n i : Nat) (S1 : St), i + n = T.1 → FrC t S S1 → (∀ j, j < T.1 → S1.2 t 10 j = if j < i then (if acM L T j = true then clmD L.1 T j else -1) else (if T.2.2.2 2 j ≤ 0 then -1 else clmD L.1 T j)) → L_X4_eat_2 t Q (n + 1) (enc (sayN (T.2.2.2 2) (clmD L.1 T) T.1)) h (nI i) S1 := by
    intro n
    induction n with
    | zero =>
      intro i S1 hi hF hr
      have e : i = T.1 := by omega
      unfold L_X4_eat_2
      rw [(hF.tb ht hb).1, e, if_pos (nI_le (Nat.le_refl _) (by omega))]
      refine ⟨T.1 + 1, eat46 (T := T) (cl := clmD L.1 T) rfl h9 (fun j => (clmD_rg L.1 T j).1) T.1 0 (T.2.2.2 2) (acM L T) h S1 (by omega) hF.t ?_ (fun j hj => by rw [hr j hj, if_pos (by omega)]) h0 (fun j hj => (hI.2.2 j hj 2 (by decide)).1) hQ⟩
      refine tbC_ext (hF.tb ht hb) rfl rfl rfl (fun w d hw hd => ?_)
      show (if w = 2 then T.2.2.2 2 d else T.2.2.2 w d) = _
      split
      · rename_i q; rw [q]
      · rfl
    | succ n ih =>
      intro i S1 hi hF hr
      have hi1 : i < T.1 := by omega
      have hv : vp_in (nI i) 9 := vp_in_nI (by omega) (by decide)
      unfold L_X4_eat_2
      rw [(hF.tb ht hb).1, if_neg (nI_ge hi1 (by omega)), nI_clamp (by omega), hr i hi1, if_neg (Nat.lt_irrefl i)]
      refine ⟨hv, ?_⟩
      simp only [nmI, nmS]
      rw [nI_1]
      have hrg := clmD_rg L.1 T i
      by_cases hz : T.2.2.2 2 i ≤ 0
      · rw [if_pos hz, if_pos (by decide)]
        refine ih (i + 1) S1 (by omega) hF (fun j hj => ?_)
        rw [hr j hj]
        by_cases e : j = i
        · subst e
          rw [if_neg (Nat.lt_irrefl j), if_pos (Nat.lt_succ_self j), if_pos hz]
          unfold acM
          rw [decide_eq_true hz]
          simp
        · by_cases e2 : j < i
          · rw [if_pos e2, if_pos (show j < i + 1 by omega)]
          · rw [if_neg e2, if_neg (show ¬ j < i + 1 by omega)]
      · rw [if_neg hz, if_neg (by rw [Int32.lt_iff_toInt_lt, Int32.toInt_zero]; omega)]
        refine e_X4_isKeptBy ht (hF.tb ht hb) (hF.lw ht hL) hwf hi1 h9 (fun b hs => (sayN_lt hs).1) (fun S2 hK => ?_)
        have hac : acM L T i = kpB L.2 T (sayN (T.2.2.2 2) (clmD L.1 T) T.1) i := by
          unfold acM
          rw [decide_eq_false hz]
          simp
        have hr2 : S2.2 t 10 = S1.2 t 10 := hK.2 t 10 (by omega)
        by_cases hk : kpB L.2 T (sayN (T.2.2.2 2) (clmD L.1 T) T.1) i = true
        · rw [hk, if_neg (by decide)]
          refine ih (i + 1) S2 (by omega) (hF.tr hK.c) (fun j hj => ?_)
          rw [hr2, hr j hj]
          by_cases e : j = i
          · subst e
            rw [if_neg (Nat.lt_irrefl j), if_pos (Nat.lt_succ_self j), if_neg hz, hac, if_pos hk]
          · by_cases e2 : j < i
            · rw [if_pos e2, if_pos (show j < i + 1 by omega)]
            · rw [if_neg e2, if_neg (show ¬ j < i + 1 by omega)]
        · have hk : kpB L.2 T (sayN (T.2.2.2 2) (clmD L.1 T) T.1) i = false := by simpa using hk
          rw [hk, if_pos (by decide)]
          refine ⟨hv, ih (i + 1) _ (by omega) ((hF.tr hK.c).tr FrC.row) (fun j hj => ?_)⟩
          rw [st_same]
          by_cases e : j = i
          · subst e
            rw [pk_us, if_pos (Nat.lt_succ_self j), hac, hk]
            simp
          · rw [pk_un e, hr2, hr j hj]
            by_cases e2 : j < i
            · rw [if_pos e2, if_pos (show j < i + 1 by omega)]
            · rw [if_neg e2, if_neg (show ¬ j < i + 1 by omega)]
  exact ⟨T.1 + 1, key T.1 0 S0 (by omega) hF0 (fun j hj => by rw [if_neg (Nat.not_lt_zero j)]; exact hrow j hj)⟩
theorem e_dine {t : Nat} {T : TB} {L : List Int32 × List Int32} {h : Int32} {S : St} {Q : Int32 → St → Prop} (ht : t = 3 ∨ t = 5) (hI : InvT T) (hb : tbC S t T) (hL : lawsC S L) (hwf : wfL L) (h0 : 0 ≤ h.toInt) (h1 : h.toInt ≤ 99) (hQ : ∀ S2, FrT t S S2 → tbC S2 t (mealT L T h).2 → Q (mealT L T h).1 S2) : E_X4_dine t h S Q := by
  obtain ⟨i1, r0, r1⟩ := tS_inv (L := L) hI h0 h1
  unfold E_X4_dine
  refine e_X4_sayer ht hb hL hwf hI.1 (fun S1 hF1 hrow => e_X4_eat ht hI hF1 hb hL hwf h0 hrow (fun S2 hF2 hb2 => ?_))
  refine ⟨T.1 + 1, dine12 (S := S) (N := T.1) (day := T.2.1) (hg := T.2.2.1) (f := (tS T (eatN T.1 (clmD L.1 T) T.1 (T.2.2.2 2) (acM L T) h).1).2.2.2) i1 r0 r1 (fun S3 h3 h4 => hQ S3 h3 h4) T.1 0 S2 (by omega) hF2 ?_⟩
  refine tbC_ext hb2 rfl rfl rfl (fun w d hw hd => ?_)
  exact mixF_0 _ w d
theorem b2i_nar (b : Bool) : (if b = true then vp_nar .boolean 1 else vp_nar .boolean 0) = b2i b := by cases b <;> decide
theorem e_aMeal {T : TB} {L : List Int32 × List Int32} {h : Int32} {S : St} {Q : Int32 → St → Prop} (hI : InvT T) (hb : tbM S T) (hL : lawsM S L) (hwf : wfL L) (h0 : 0 ≤ h.toInt) (h1 : h.toInt ≤ 99) (hQ : ∀ S2, FrM S S2 → tbM S2 (mealT L T h).2 → Q (mealT L T h).1 S2) : E_X7_aMeal h S Q := by
  have h9 := hI.1
  obtain ⟨i1, r0, r1⟩ := tS_inv (L := L) hI h0 h1
  have v5 : vp_in (5 : Int32) 387 := vp_in_nI (n := 5) (by decide) (by decide)
  unfold E_X7_aMeal
  refine e_X7_findRuler hb hL hwf h9 (fun S0 hF0 hcl => ?_)
  have key : ∀ (n i : Nat) (S1 : St), i + n = T.1 → FrG S S1 → (∀ j, j < T.1 → S1.2 17 12 j = clmD L.1 T j) → (∀ j, j < i → S1.2 17 13 j = b2i (acM L T j)) → L_X7_aMeal_7 Q (n + 1) h (enc (sayN (T.2.2.2 2) (clmD L.1 T) T.1)) (nI i) S1 := by
    intro n
    induction n with
    | zero =>
      intro i S1 hi hF hcl hm
      have e : i = T.1 := by omega
      subst e
      have hb1 := hF.tb hb
      unfold L_X7_aMeal_7
      rw [show (5 : Int32).toNatClampNeg = 5 by decide, hb1.1, if_pos (nI_le (Nat.le_refl _) (by omega))]
      refine ⟨v5, ?_⟩
      unfold E_X7_eaten
      refine e_X7_leastClaim h9 hb1.1 hcl hm ?_
      refine ⟨T.1 + 1, eatM (T := T) (S := S) (cl := clmD L.1 T) rfl h9 T.1 (T.2.2.2 2) (acM L T) h S1 (cnt_le _ _) hF.m ?_ hcl hm (fun S2 hF2 hb2 => ?_)⟩
      · refine tbM_ext hb1 rfl rfl rfl (fun w d hw hd => ?_)
        show (if w = 2 then T.2.2.2 2 d else T.2.2.2 w d) = _
        split
        · rename_i q; rw [q]
        · rfl
      · refine ⟨T.1 + 1, aMeal61 (S := S) (N := T.1) (day := T.2.1) (hg := T.2.2.1) (f := (tS T (eatN T.1 (clmD L.1 T) T.1 (T.2.2.2 2) (acM L T) h).1).2.2.2) i1 (fun S3 h3 h4 => hQ S3 h3 h4) T.1 0 S2 (by omega) hF2 ?_⟩
        refine tbM_ext hb2 rfl rfl rfl (fun w d hw hd => ?_)
        exact mixF_0 _ w d
    | succ n ih =>
      intro i S1 hi hF hcl hm
      have hi1 : i < T.1 := by omega
      have hb1 := hF.tb hb
      have hv : vp_in (nI i) 9 := vp_in_nI (by omega) (by decide)
      unfold L_X7_aMeal_7
      rw [show (5 : Int32).toNatClampNeg = 5 by decide, hb1.1, if_neg (nI_ge hi1 (by omega))]
      refine ⟨v5, e_its (w := 2) (by omega) (by decide) rfl ?_⟩
      rw [hb1.2.2.2 2 i (by decide) hi1]
      simp only [nmI, nmS]
      rw [nI_1, nI_clamp (by omega)]
      have nx : ∀ (S2 : St) (z : Int32), FrN S1 S2 → z = b2i (acM L T i) → L_X7_aMeal_7 Q (n + 1) h (enc (sayN (T.2.2.2 2) (clmD L.1 T) T.1)) (nI (i + 1)) (stR S2 17 13 (upd (S2.2 17 13) i z)) := by
        intro S2 z hN hz
        refine ih (i + 1) _ (by omega) ((hF.tr hN.g).tr (FrG.row (by decide) (by decide))) (fun j hj => ?_) (fun j hj => ?_)
        · rw [st_ne (by omega), hN.2 17 12 (by omega)]
          exact hcl j hj
        · rw [st_same]
          by_cases e : j = i
          · rw [e, pk_us, hz]
          · rw [pk_un e, hN.2 17 13 (by omega)]
            exact hm j (by omega)
      by_cases hz : T.2.2.2 2 i ≤ 0
      · rw [if_pos hz]
        refine ⟨hv, nx S1 _ FrN.rf ?_⟩
        unfold acM
        rw [decide_eq_true hz, Bool.not_true, Bool.false_and]
        decide
      · rw [if_neg hz]
        have hac : acM L T i = kpB L.2 T (sayN (T.2.2.2 2) (clmD L.1 T) T.1) i := by
          unfold acM
          rw [decide_eq_false hz]
          simp
        refine e_X7_isInKeeping hb1 (hF.lw hL) hwf hi1 h9 (fun b hs => (sayN_lt hs).1) (fun S2 hN => ?_)
        by_cases hk : kpB L.2 T (sayN (T.2.2.2 2) (clmD L.1 T) T.1) i = true
        · rw [hk, if_neg (by decide)]
          exact ⟨hv, nx S2 _ hN (by rw [hac, hk]; decide)⟩
        · have hk : kpB L.2 T (sayN (T.2.2.2 2) (clmD L.1 T) T.1) i = false := by simpa using hk
          rw [hk, if_pos (by decide)]
          exact ⟨hv, nx S2 _ hN (by rw [hac, hk]; decide)⟩
  exact ⟨T.1 + 1, key T.1 0 S0 (by omega) hF0 hcl (fun j hj => absurd hj (by omega))⟩
/-- n MEALS of a hunger on -/
def mealsT (L : List Int32 × List Int32) (h : Int32) : Nat → TB → TB
  | 0, T => T
  | n + 1, T => mealsT L h n (mealT L T h).2
theorem mealsT_inv {L : List Int32 × List Int32} {h : Int32} (h0 : 0 ≤ h.toInt) (h1 : h.toInt ≤ 99) : ∀ (n : Nat) (T : TB), InvT T → InvT (mealsT L h n T) ∧ (mealsT L h n T).1 = T.1 := by
  intro n
  induction n with
  | zero => intro T hI; exact ⟨hI, rfl⟩
  | succ n ih =>
    intro T hI
    obtain ⟨a, -, -, b⟩ := mealT_inv (L := L) hI h0 h1
    obtain ⟨c, d⟩ := ih _ a
    exact ⟨c, d.trans b⟩
theorem e_pass {t m : Nat} {T : TB} {L : List Int32 × List Int32} {h x : Int32} {S : St} {Q : St → Prop} (ht : t = 3 ∨ t = 5) (hm : m ≤ 60) (hx : x = nI m) (hI : InvT T) (hb : tbC S t T) (hL : lawsC S L) (hwf : wfL L) (h0 : 0 ≤ h.toInt) (h1 : h.toInt ≤ 99) (hQ : ∀ S2, FrT t S S2 → tbC S2 t (mealsT L h m T) → Q S2) : E_X4_pass t x h S Q := by
  subst hx
  have key : ∀ (n i : Nat) (T1 : TB) (S1 : St), i + n = m → InvT T1 → FrT t S S1 → tbC S1 t T1 → mealsT L h n T1 = mealsT L h m T → L_X4_pass_2 t Q (n + 1) (nI m) h (nI i) S1 := by
    intro n
    induction n with
    | zero =>
      intro i T1 S1 hi hI1 hF hb1 he
      unfold L_X4_pass_2
      rw [show i = m by omega, if_pos (nI_le (Nat.le_refl _) (by omega))]
      refine hQ S1 hF ?_
      rw [← he]
      exact hb1
    | succ n ih =>
      intro i T1 S1 hi hI1 hF hb1 he
      unfold L_X4_pass_2
      rw [if_neg (nI_ge (show i < m by omega) (by omega))]
      refine e_dine ht hI1 hb1 (hF.lw ht hL) hwf h0 h1 (fun S2 hF2 hb2 => ?_)
      simp only [nmI]
      rw [nI_1]
      exact ih (i + 1) _ S2 (by omega) (mealT_inv hI1 h0 h1).1 (hF.tr hF2) hb2 he
  exact ⟨m + 1, key m 0 T S (by omega) hI FrT.rf hb rfl⟩
theorem e_goes {m : Nat} {T : TB} {L : List Int32 × List Int32} {h x : Int32} {S : St} {Q : St → Prop} (hm : m ≤ 60) (hx : x = nI m) (hI : InvT T) (hb : tbM S T) (hL : lawsM S L) (hwf : wfL L) (h0 : 0 ≤ h.toInt) (h1 : h.toInt ≤ 99) (hQ : ∀ S2, FrM S S2 → tbM S2 (mealsT L h m T) → Q S2) : E_X7_goes x h S Q := by
  subst hx
  have key : ∀ (n i : Nat) (T1 : TB) (S1 : St), i + n = m → InvT T1 → FrM S S1 → tbM S1 T1 → mealsT L h n T1 = mealsT L h m T → L_X7_goes_2 Q (n + 1) (nI m) h (nI i) S1 := by
    intro n
    induction n with
    | zero =>
      intro i T1 S1 hi hI1 hF hb1 he
      unfold L_X7_goes_2
      rw [show i = m by omega, if_pos (nI_le (Nat.le_refl _) (by omega))]
      refine hQ S1 hF ?_
      rw [← he]
      exact hb1
    | succ n ih =>
      intro i T1 S1 hi hI1 hF hb1 he
      unfold L_X7_goes_2
      rw [if_neg (nI_ge (show i < m by omega) (by omega))]
      refine e_aMeal hI1 hb1 (hF.lw hL) hwf h0 h1 (fun S2 hF2 hb2 => ?_)
      simp only [nmI]
      rw [nI_1]
      exact ih (i + 1) _ S2 (by omega) (mealT_inv hI1 h0 h1).1 (hF.tr hF2) hb2 he
  exact ⟨m + 1, key m 0 T S (by omega) hI FrM.rf hb rfl⟩
