/-! PAIRS OF CALLS: brings, odds -/
def ksN (sz : Nat → Int32) (kp : Nat → Bool) : Nat → Int32
  | 0 => 0
  | i + 1 => ksN sz kp i + (if kp i = true then sz i else 0)
def ksv (L : List Int32 × List Int32) (T : TB) : Int32 := ksN (T.2.2.2 2) (kpB L.2 T (sayN (T.2.2.2 2) (clmD L.1 T) T.1)) T.1
theorem e_leftInKeeping {S : St} {Q : Int32 → St → Prop} {t : Nat} {T : TB} {L : List Int32 × List Int32} (ht : t = 3 ∨ t = 5) (hI : InvT T) (hb : tbC S t T) (hL : lawsC S L) (hwf : wfL L) (hQ : ∀ S1, FrC t S S1 → Q (ksv L T) S1) : E_X4_leftInKeeping t S Q := by
  have h9 := hI.1
  unfold E_X4_leftInKeeping
  refine e_X4_sayer ht hb hL hwf h9 (fun S0 f0 _ => ?_)
  obtain ⟨ru, hru⟩ : ∃ ru, ru = sayN (T.2.2.2 2) (clmD L.1 T) T.1 := ⟨_, rfl⟩
  rw [← hru]
  have key : ∀ (n i : Nat) (S1 : St), i + n = T.1 → FrC t S S1 → L_X4_leftInKeeping_9 t Q (n + 1) (enc ru) (ksN (T.2.2.2 2) (kpB L.2 T ru) i) (nI i) S1 := by
    intro n
    induction n with
    | zero =>
      intro i S1 hi hF
      have e : i = T.1 := by omega
      unfold L_X4_leftInKeeping_9
      rw [(hF.tb ht hb).1, e, if_pos (nI_le (Nat.le_refl _) (by omega))]
      have := hQ S1 hF
      unfold ksv at this
      rw [← hru] at this
      exact this
    | succ n ih =>
      intro i S1 hi hF
      have hi1 : i < T.1 := by omega
      have hv : vp_in (nI i) 9 := vp_in_nI (by omega) (by decide)
      have hb1 := hF.tb ht hb
      have r2 : S1.2 t 7 i = T.2.2.2 2 i := hb1.2.2.2 2 i (by decide) hi1
      unfold L_X4_leftInKeeping_9
      rw [hb1.1, if_neg (nI_ge hi1 (by omega)), nI_clamp (by omega), r2]
      refine ⟨hv, ?_⟩
      simp only [nmI]
      rw [nI_1]
      by_cases hz : T.2.2.2 2 i ≤ 0
      · rw [if_pos hz]
        have z0 := (hI.2.2 i hi1 2 (by decide)).1
        have z1 := Int32.le_iff_toInt_le.mp hz
        rw [Int32.toInt_zero] at z1
        have ez : T.2.2.2 2 i = 0 := Int32.toInt_inj.mp (by rw [Int32.toInt_zero]; omega)
        have := ih (i + 1) S1 (by omega) hF
        rw [ksN, ez, ite_self, Int32.add_zero] at this
        exact this
      · rw [if_neg hz]
        refine e_X4_isKeptBy ht hb1 (hF.lw ht hL) hwf hi1 h9 (fun b hs => by rw [hru] at hs; exact (sayN_lt hs).1) (fun S2 hK => ?_)
        have nx := ih (i + 1) S2 (by omega) (hF.tr hK.c)
        rw [ksN] at nx
        have r3 : S2.2 t 7 i = T.2.2.2 2 i := by rw [hK.2 t 7 (by omega)]; exact r2
        cases hk : kpB L.2 T ru i with
        | false =>
          rw [hk, if_neg (by decide), Int32.add_zero] at nx
          rw [if_pos (by decide)]
          exact nx
        | true =>
          rw [hk, if_pos rfl] at nx
          rw [if_neg (by decide), r3]
          exact ⟨hv, nx⟩
  exact ⟨T.1 + 1, key T.1 0 S0 (by omega) f0⟩
theorem e_keepingSizes {S : St} {Q : Int32 → St → Prop} {T : TB} {L : List Int32 × List Int32} (h9 : T.1 ≤ 9) (hb : tbM S T) (hL : lawsM S L) (hwf : wfL L) (hQ : ∀ S1, FrG S S1 → Q (ksv L T) S1) : E_X7_keepingSizes S Q := by
  have v5 : vp_in (5 : Int32) 387 := vp_in_nI (n := 5) (by decide) (by decide)
  unfold E_X7_keepingSizes
  refine e_X7_findRuler hb hL hwf h9 (fun S0 f0 _ => ?_)
  obtain ⟨ru, hru⟩ : ∃ ru, ru = sayN (T.2.2.2 2) (clmD L.1 T) T.1 := ⟨_, rfl⟩
  rw [← hru]
  have key : ∀ (n i : Nat) (S1 : St), i + n = T.1 → FrG S S1 → L_X7_keepingSizes_9 Q (n + 1) (enc ru) (ksN (T.2.2.2 2) (kpB L.2 T ru) i) (nI i) S1 := by
    intro n
    induction n with
    | zero =>
      intro i S1 hi hF
      have e : i = T.1 := by omega
      unfold L_X7_keepingSizes_9
      rw [show (5 : Int32).toNatClampNeg = 5 by decide, (hF.tb hb).1, e, if_pos (nI_le (Nat.le_refl _) (by omega))]
      have := hQ S1 hF
      unfold ksv at this
      rw [← hru] at this
      exact ⟨v5, this⟩
    | succ n ih =>
      intro i S1 hi hF
      have hi1 : i < T.1 := by omega
      have hb1 := hF.tb hb
      unfold L_X7_keepingSizes_9
      rw [show (5 : Int32).toNatClampNeg = 5 by decide, hb1.1, if_neg (nI_ge hi1 (by omega))]
      refine ⟨v5, e_X7_isInKeeping hb1 (hF.lw hL) hwf hi1 h9 (fun b hs => by rw [hru] at hs; exact (sayN_lt hs).1) (fun S2 hN => ?_)⟩
      have nx := ih (i + 1) S2 (by omega) (hF.tr hN.g)
      rw [ksN] at nx
      simp only [nmI]
      rw [nI_1]
      cases hk : kpB L.2 T ru i with
      | false =>
        rw [hk, if_neg (by decide)] at nx
        rw [if_pos (by decide)]
        exact nx
      | true =>
        rw [hk, if_pos rfl] at nx
        rw [if_neg (by decide)]
        refine e_its (w := 2) (by omega) (by decide) rfl ?_
        rw [(hN.g.tb hb1).2.2.2 2 i (by decide) hi1]
        exact nx
  exact ⟨T.1 + 1, key T.1 0 S0 (by omega) f0⟩
def brN (v : Nat → Int32) : Nat → Int32 × Int32
  | 0 => (0, -1)
  | i + 1 => if v i ≤ (brN v i).2 then brN v i else (nI i, v i)
theorem addT_fl (T : TB) (k m s f g : Int32) (w d : Nat) (hw : w < 5) : (tF (addT T k m s f) 4 T.1 g).2.2.2 w d = (addT T k m s g).2.2.2 w d := by
  by_cases e : d = T.1
  · subst e
    rcases (show w = 0 ∨ w = 1 ∨ w = 2 ∨ w = 3 ∨ w = 4 by omega) with rfl | rfl | rfl | rfl | rfl <;> simp [tF, addT]
  · simp [tF, addT, e]
theorem f_brings {c : Nat} {SC SM : St} (R : Rel c SC SM) (x1 x2 : Int32) : E_X6_brings x1 x2 SC (fun r SC1 => E_X7_brings x1 x2 SM (RQ c SC1 r)) := by
  obtain ⟨H, h1, h2, h3⟩ := R.1
  have h9 := h3.1.1
  have hLC := lawsC_of h1 R.2.1
  have v5 : vp_in (5 : Int32) 387 := vp_in_nI (n := 5) (by decide) (by decide)
  unfold E_X6_brings
  rcases win x1 1 99 with hn | hn
  · refine w_no hn ?_
    rw [if_pos rfl]
    refine e_wrong 1 (by decide) rfl ?_
    unfold E_X7_brings
    refine i_no hn ?_
    rw [if_pos rfl]
    exact e_error 1 (by decide) rfl ⟨rfl, (R.err 1 (by decide)).up⟩
  refine w_ok hn ?_
  rw [if_neg (by decide)]
  rcases win x2 0 1 with hw | hw
  · refine w_no hw ?_
    rw [if_pos rfl]
    refine e_wrong 1 (by decide) rfl ?_
    unfold E_X7_brings
    refine i_ok hn ?_
    rw [if_neg (by decide)]
    refine i_no hw ?_
    rw [if_pos rfl]
    exact e_error 1 (by decide) rfl ⟨rfl, (R.err 1 (by decide)).up⟩
  refine w_ok hw ?_
  rw [if_neg (by decide)]
  have head : ∀ (r : Int32) (SC1 : St), (if nI H.1.1 = 9 then (E_X7_error 3 SM (fun v8 S7 => RQ c SC1 r v8 S7)) else (if sumN (H.1.2.2.2 2) H.1.1 = 0 then (E_X7_error 3 SM (fun v19 S18 => RQ c SC1 r v19 S18)) else (∃ k, L_X7_brings_57 (RQ c SC1 r) k x1 x2 0 (-1) 0 SM))) → E_X7_brings x1 x2 SM (RQ c SC1 r) := by
    intro r SC1 h
    unfold E_X7_brings
    refine i_ok hn ?_
    rw [if_neg (by decide)]
    refine i_ok hw ?_
    rw [if_neg (by decide), show (5 : Int32).toNatClampNeg = 5 by decide, show SM.2 17 0 5 = nI H.1.1 from h2.1.1]
    refine ⟨v5, ?_⟩
    by_cases e9 : nI H.1.1 = 9
    · rw [if_pos e9] at h ⊢; exact h
    · rw [if_neg e9] at h ⊢
      exact e_X7_allLeft h2.1 h9 h
  refine e_X4_left h1.1 h9 ?_
  by_cases hz : sumN (H.1.2.2.2 2) H.1.1 = 0
  · rw [if_pos hz]
    refine e_wrong 3 (by decide) rfl (head _ _ ?_)
    by_cases e9 : nI H.1.1 = 9
    · rw [if_pos e9]
      exact e_error 3 (by decide) rfl ⟨rfl, (R.err 3 (by decide)).up⟩
    · rw [if_neg e9, if_pos hz]
      exact e_error 3 (by decide) rfl ⟨rfl, (R.err 3 (by decide)).up⟩
  rw [if_neg hz, show SC.1 3 2 = nI H.1.1 from h1.1.1]
  refine Or.elim (Decidable.em (¬ H.1.1 < 9)) (fun hN => ?_) (fun hN0 => ?_)
  · rw [if_neg (show ¬ nI H.1.1 < 9 from nI_nlt (a := H.1.1) (b := 9) (by omega) (by omega))]
    refine e_wrong 3 (by decide) rfl (head _ _ ?_)
    rw [if_pos (show nI H.1.1 = 9 by rw [show H.1.1 = 9 by omega]; rfl)]
    exact e_error 3 (by decide) rfl ⟨rfl, (R.err 3 (by decide)).up⟩
  have hN : H.1.1 < 9 := Decidable.not_not.mp hN0
  rw [if_pos (show nI H.1.1 < 9 from nI_lt (b := 9) hN (by decide))]
  have n9 : ¬ nI H.1.1 = 9 := fun e => by have := (nI_eq (a := H.1.1) (b := 9) (by omega) (by decide)).mp e; omega
  have hs : 0 ≤ x1.toInt ∧ x1.toInt ≤ 99 := rg_of (m := 99) rfl (by decide) ⟨fun q => hn.1 (Int32.lt_iff_toInt_lt.mpr (by have := Int32.lt_iff_toInt_lt.mp q; rw [Int32.toInt_zero] at this; rw [show (1 : Int32).toInt = 1 by decide]; omega)), hn.2⟩
  obtain ⟨U, hU⟩ : ∃ U : Nat → TB, ∀ f, U f = addT H.1 (0 / 10) (0 - 0 / 10 * 10) x1 (nI f) := ⟨_, fun _ => rfl⟩
  have hUI : ∀ f, f ≤ 9 → InvT (U f) := fun f hf => by
    rw [hU]
    exact addT_inv h3.1 hN ⟨by decide, by decide⟩ ⟨by decide, by decide⟩ hs (by rw [nI_toInt (by omega)]; omega)
  have hU1 : ∀ f, (U f).1 = H.1.1 + 1 := fun f => by rw [hU]; rfl
  obtain ⟨v, hv⟩ : ∃ v : Nat → Int32, ∀ f, v f = ksv H.2.1 (U f) := ⟨_, fun _ => rfl⟩
  have mod : ∀ (SC1 : St) (r : Int32), r = (if x2 = 0 then (brN v 10).1 else (brN v 10).2) → FrO 5 SC SC1 → E_X7_brings x1 x2 SM (RQ c SC1 r) := by
    intro SC1 r hr hFC
    refine head r SC1 ?_
    rw [if_neg n9, if_neg hz]
    have key : ∀ (n i : Nat) (S1 : St), i + n = 10 → FrL SM S1 → L_X7_brings_57 (RQ c SC1 r) (n + 1) x1 x2 (brN v i).1 (brN v i).2 (nI i) S1 := by
      intro n
      induction n with
      | zero =>
        intro i S1 hi hF
        have e : i = 10 := by omega
        subst e
        unfold L_X7_brings_57
        rw [if_pos (by decide)]
        by_cases c0 : x2 = 0
        · rw [if_pos c0] at hr ⊢; exact ⟨hr, (R.think hFC hF).up⟩
        · rw [if_neg c0] at hr ⊢; exact ⟨hr, (R.think hFC hF).up⟩
      | succ n ih =>
        intro i S1 hi hF
        unfold L_X7_brings_57
        rw [if_neg (show ¬ (10 : Int32) ≤ nI i from nI_ge (a := i) (b := 10) (by omega) (by decide))]
        refine e_layDown (fun g hg => e_laysDish (lay_tb (hF.tb h2.1)) hN (fun S2 f2 t2 => ?_))
        rw [← hU i] at t2
        refine e_keepingSizes (by rw [hU1]; omega) t2 (f2.lw (lay_lw (hF.lw h2.2.1))) h3.2.1 (fun S3 f3 => e_layBack ?_)
        rw [← hv i]
        have nx := ih (i + 1) _ (by omega) (hF.tr (lay_back hg (f2.tr f3.m)))
        rw [brN] at nx
        by_cases hc : v i ≤ (brN v i).2
        · rw [if_pos hc] at nx ⊢
          unfold J_X7_brings_99
          rw [if_pos hc]
          simp only [nmI]
          rw [nI_1]
          exact nx
        · rw [if_neg hc] at nx ⊢
          unfold J_X7_brings_99
          rw [if_neg hc]
          simp only [nmI]
          rw [nI_1]
          exact nx
    exact ⟨11, key 10 0 SM (by omega) FrL.rf⟩
  refine e_take (by decide) h1.1 h9 (fun SC1 f1 _ t1 => e_bring t1 hN (fun SC2 f2 _ t2 => ?_))
  have key : ∀ (n i : Nat) (fl : Int32) (S1 : St), i + n = 10 → FrO 5 SC S1 → tbC S1 5 (addT H.1 (0 / 10) (0 - 0 / 10 * 10) x1 fl) → L_X6_brings_84 (fun r SC1 => E_X7_brings x1 x2 SM (RQ c SC1 r)) (n + 1) x2 (nI H.1.1) (brN v i).1 (brN v i).2 (nI i) S1 := by
    intro n
    induction n with
    | zero =>
      intro i fl S1 hi hF hb1
      have e : i = 10 := by omega
      subst e
      unfold L_X6_brings_84
      rw [if_pos (by decide)]
      by_cases c0 : x2 = 0
      · rw [if_pos c0]; exact mod S1 _ (by rw [if_pos c0]) hF
      · rw [if_neg c0]; exact mod S1 _ (by rw [if_neg c0]) hF
    | succ n ih =>
      intro i fl S1 hi hF hb1
      unfold L_X6_brings_84
      rw [if_neg (show ¬ (9 : Int32) < nI i from nI_nlt (a := 9) (b := i) (by omega) (by decide)), nI_clamp (by omega)]
      refine ⟨vp_in_nI (by omega) (by decide), ?_⟩
      simp only [nmS, nmI]
      rw [nI_1]
      have hb2 : tbC (stR S1 5 9 (upd (S1.2 5 9) H.1.1 (nI i))) 5 (U i) := by
        rw [hU]
        exact tbC_ext (tbC_set (w := 4) (d := H.1.1) (v := nI i) (k := 9) rfl hb1) rfl rfl rfl (fun w d hw _ => (addT_fl H.1 _ _ _ _ _ w d hw).symm)
      have hF2 : FrO 5 SC (stR S1 5 9 (upd (S1.2 5 9) H.1.1 (nI i))) := hF.tr FrO.row
      refine e_leftInKeeping (Or.inr rfl) (hUI i (by omega)) hb2 (hF2.lw hLC) h3.2.1 (fun S3 f3 => ?_)
      rw [← hv i]
      have hb3 := f3.tb (Or.inr rfl) hb2
      rw [hU] at hb3
      have nx := ih (i + 1) (nI i) S3 (by omega) (hF2.tr f3.t.o) hb3
      rw [brN] at nx
      by_cases hc : v i ≤ (brN v i).2
      · rw [if_pos hc] at nx ⊢
        exact nx
      · rw [if_neg hc] at nx ⊢
        exact nx
  exact ⟨11, key 10 0 0 SC2 (by omega) (f1.tr f2) t2⟩
theorem mod_half {b r k : Nat} (hr : 0 < r) (hrb : r < b) (hb : b < 2 ^ (k + 1)) : b % r < 2 ^ k := by
  have h1 := Nat.div_add_mod b r
  have h2 := Nat.mod_lt b hr
  have h3 : 1 ≤ b / r := (Nat.le_div_iff_mul_le hr).mpr (by omega)
  have h4 : r * 1 ≤ r * (b / r) := Nat.mul_le_mul_left r h3
  rw [Nat.pow_succ] at hb
  omega
theorem gcd_st (a b : Nat) : Nat.gcd b (a % b) = Nat.gcd a b := by
  rw [Nat.gcd_comm a b, Nat.gcd_rec b a, Nat.gcd_comm]
theorem gcdC {S : St} {Q : Int32 → St → Prop} : ∀ (k a b i : Nat), b < 2 ^ k → i + 2 * k + 1 ≤ 100 → 0 < a → a < 2 ^ 31 → b < 2 ^ 31 → Q (nI (Nat.gcd a b)) S → L_X6_commonDivisor_2 Q (2 * k + 1) (nI a) (nI b) (nI i) S := by
  have stop : ∀ (n a i : Nat), i < 100 → 0 < a → a < 2 ^ 31 → Q (nI (Nat.gcd a 0)) S → L_X6_commonDivisor_2 Q (n + 1) (nI a) (nI 0) (nI i) S := by
    intro n a i hi ha ha2 hQ
    unfold L_X6_commonDivisor_2
    rw [if_neg (show ¬ (100 : Int32) ≤ nI i from nI_ge (a := i) (b := 100) hi (by decide)), if_pos (by decide), if_neg (nI_ne0 ha ha2)]
    rw [Nat.gcd_zero_right] at hQ
    exact hQ
  have step : ∀ (n a b i : Nat), i < 100 → 0 < b → a < 2 ^ 31 → b < 2 ^ 31 → L_X6_commonDivisor_2 Q n (nI b) (nI (a % b)) (nI (i + 1)) S → L_X6_commonDivisor_2 Q (n + 1) (nI a) (nI b) (nI i) S := by
    intro n a b i hi hb0 ha hb hL
    unfold L_X6_commonDivisor_2
    rw [if_neg (show ¬ (100 : Int32) ≤ nI i from nI_ge (a := i) (b := 100) hi (by decide)), if_neg (nI_ne0 hb0 hb)]
    refine ⟨nI_ne0 hb0 hb, ?_⟩
    simp only [nmI]
    rw [pk_rem ha hb0 hb, nI_1]
    exact hL
  intro k
  induction k with
  | zero =>
    intro a b i hb hi ha ha2 hb2 hQ
    have e : b = 0 := by simpa using hb
    subst e
    exact stop 0 a i (by omega) ha ha2 hQ
  | succ k ih =>
    intro a b i hb hi ha ha2 hb2 hQ
    by_cases e : b = 0
    · subst e
      exact stop _ a i (by omega) ha ha2 hQ
    · have hb0 : 0 < b := by omega
      have hr := Nat.mod_lt a hb0
      rw [show 2 * (k + 1) + 1 = (2 * k + 2) + 1 by omega]
      refine step _ a b i (by omega) hb0 ha2 hb2 ?_
      rw [← gcd_st] at hQ
      by_cases e2 : a % b = 0
      · rw [e2] at hQ ⊢
        exact stop _ b (i + 1) (by omega) hb0 hb2 hQ
      · refine step _ b (a % b) (i + 1) (by omega) (by omega) hb2 (by omega) ?_
        rw [← gcd_st] at hQ
        exact ih (a % b) (b % (a % b)) (i + 2) (mod_half (by omega) hr hb) (by omega) (by omega) (by omega) (by have := Nat.mod_lt b (show 0 < a % b by omega); omega) hQ
theorem gcdM {S : St} {Q : Int32 → St → Prop} : ∀ (k a b : Nat), b < 2 ^ k → a < 2 ^ 31 → b < 2 ^ 31 → Q (nI (Nat.gcd a b)) S → L_X7_divisor_4 Q (2 * k + 1) (nI a) (nI b) S := by
  have stop : ∀ (n a : Nat), Q (nI (Nat.gcd a 0)) S → L_X7_divisor_4 Q (n + 1) (nI a) (nI 0) S := by
    intro n a hQ
    unfold L_X7_divisor_4
    rw [if_pos (by decide)]
    rw [Nat.gcd_zero_right] at hQ
    exact hQ
  have step : ∀ (n a b : Nat), 0 < b → a < 2 ^ 31 → b < 2 ^ 31 → L_X7_divisor_4 Q n (nI b) (nI (a % b)) S → L_X7_divisor_4 Q (n + 1) (nI a) (nI b) S := by
    intro n a b hb0 ha hb hL
    unfold L_X7_divisor_4
    rw [if_neg (nI_ne0 hb0 hb)]
    refine ⟨nI_ne0 hb0 hb, ?_⟩
    simp only [nmI]
    rw [pk_rem ha hb0 hb]
    exact hL
  intro k
  induction k with
  | zero =>
    intro a b hb ha2 hb2 hQ
    have e : b = 0 := by simpa using hb
    subst e
    exact stop 0 a hQ
  | succ k ih =>
    intro a b hb ha2 hb2 hQ
    by_cases e : b = 0
    · subst e
      exact stop _ a hQ
    · have hb0 : 0 < b := by omega
      have hr := Nat.mod_lt a hb0
      rw [show 2 * (k + 1) + 1 = (2 * k + 2) + 1 by omega]
      refine step _ a b hb0 ha2 hb2 ?_
      rw [← gcd_st] at hQ
      by_cases e2 : a % b = 0
      · rw [e2] at hQ ⊢
        exact stop _ b hQ
      · refine step _ b (a % b) (by omega) hb2 (by omega) ?_
        rw [← gcd_st] at hQ
        exact ih (a % b) (b % (a % b)) (mod_half (by omega) hr hb) (by omega) (by have := Nat.mod_lt b (show 0 < a % b by omega); omega) hQ
theorem sum_nI {sz : Nat → Int32} {kp : Nat → Bool} : ∀ i : Nat, i ≤ 9 → (∀ j, j < i → 0 ≤ (sz j).toInt ∧ (sz j).toInt ≤ 99) → ∃ A B : Nat, sumN sz i = nI A ∧ ksN sz kp i = nI B ∧ B ≤ A ∧ A ≤ 99 * i := by
  intro i
  induction i with
  | zero => intro _ _; exact ⟨0, 0, rfl, rfl, Nat.le_refl 0, Nat.le_refl 0⟩
  | succ i ih =>
    intro h9 hz
    obtain ⟨A, B, e1, e2, h1, h2⟩ := ih (by omega) (fun j hj => hz j (by omega))
    have hzi := hz i (Nat.lt_succ_self i)
    obtain ⟨n, hn, ez⟩ := nI_of (x := sz i) (fun q => by have := Int32.lt_iff_toInt_lt.mp q; rw [Int32.toInt_zero] at this; omega)
    have hn99 : n ≤ 99 := by have := hzi.2; rw [ez, nI_toInt hn] at this; omega
    unfold sumN ksN
    rw [e1, e2, ez]
    cases kp i with
    | true => exact ⟨A + n, B + n, nI_add A n, by rw [if_pos rfl, nI_add], by omega, by omega⟩
    | false => exact ⟨A + n, B, nI_add A n, by rw [if_neg (by decide), Int32.add_zero], by omega, by omega⟩
theorem f_odds {c : Nat} {SC SM : St} (R : Rel c SC SM) (x1 : Int32) : E_X6_odds x1 SC (fun r SC1 => E_X7_odds x1 SM (RQ c SC1 r)) := by
  obtain ⟨H, h1, h2, h3⟩ := R.1
  have h9 := h3.1.1
  have hLC := lawsC_of h1 R.2.1
  unfold E_X6_odds
  rcases win x1 0 1 with hw | hw
  · refine w_no hw ?_
    rw [if_pos rfl]
    refine e_wrong 1 (by decide) rfl ?_
    unfold E_X7_odds
    refine i_no hw ?_
    rw [if_pos rfl]
    exact e_error 1 (by decide) rfl ⟨rfl, (R.err 1 (by decide)).up⟩
  refine w_ok hw ?_
  rw [if_neg (by decide)]
  refine e_X4_left h1.1 h9 ?_
  by_cases hz : sumN (H.1.2.2.2 2) H.1.1 = 0
  · rw [if_pos hz]
    refine e_wrong 3 (by decide) rfl ?_
    unfold E_X7_odds
    refine i_ok hw ?_
    rw [if_neg (by decide)]
    refine e_X7_allLeft h2.1 h9 ?_
    rw [if_pos hz]
    exact e_error 3 (by decide) rfl ⟨rfl, (R.err 3 (by decide)).up⟩
  rw [if_neg hz]
  obtain ⟨A, B, eA, eB, hBA, hA⟩ := sum_nI (sz := H.1.2.2.2 2) (kp := kpB H.2.1.2 H.1 (sayN (H.1.2.2.2 2) (clmD H.2.1.1 H.1) H.1.1)) H.1.1 h9 (fun j hj => h3.1.2.2 j hj 2 (by decide))
  have eB : ksv H.2.1 H.1 = nI B := eB
  have hA0 : 0 < A := by
    rcases Nat.eq_zero_or_pos A with q | q
    · rw [q] at eA; exact absurd eA hz
    · exact q
  have hA2 : A ≤ 891 := by omega
  have g0 : 0 < Nat.gcd A B := Nat.gcd_pos_of_pos_left B hA0
  have g1 : Nat.gcd A B ≤ A := Nat.gcd_le_left B hA0
  have gne : ¬ nI (Nat.gcd A B) = 0 := nI_ne0 g0 (by omega)
  refine e_leftInKeeping (Or.inl rfl) h3.1 h1.1 hLC h3.2.1 (fun SC1 f1 => ?_)
  rw [eA, eB]
  have mod : ∀ r, r = (if x1 = 0 then nI B / nI (Nat.gcd A B) else nI A / nI (Nat.gcd A B)) → E_X7_odds x1 SM (RQ c SC1 r) := by
    intro r hr
    unfold E_X7_odds
    refine i_ok hw ?_
    rw [if_neg (by decide)]
    refine e_X7_allLeft h2.1 h9 ?_
    rw [if_neg hz]
    refine e_keepingSizes h9 h2.1 h2.2.1 h3.2.1 (fun SM1 fG => ?_)
    rw [eA, eB]
    refine ⟨2 * 11 + 1, gcdM 11 B A (by omega) (by omega) (by omega) ?_⟩
    rw [Nat.gcd_comm B A]
    have rel := R.same (Or.inl rfl) f1 fG
    by_cases c0 : x1 = 0
    · rw [if_pos c0] at hr ⊢; exact ⟨gne, hr, rel⟩
    · rw [if_neg c0] at hr ⊢; exact ⟨gne, hr, rel⟩
  refine ⟨2 * 11 + 1, gcdC 11 A B 0 (by omega) (by omega) hA0 (by omega) (by omega) ?_⟩
  by_cases c0 : x1 = 0
  · rw [if_pos c0]; exact ⟨gne, mod _ (by rw [if_pos c0])⟩
  · rw [if_neg c0]; exact ⟨gne, mod _ (by rw [if_neg c0])⟩
