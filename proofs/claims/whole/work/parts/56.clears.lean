/-! PAIRS OF CALLS: clears -/
def zT (T : TB) (st : Int32) (i : Nat) : TB := (T.1, T.2.1, T.2.2.1, fun w d => if w = 2 ∧ d < i ∧ ((st >>> (nI d &&& 31)) &&& 1) = 1 then 0 else T.2.2.2 w d)
theorem zT_inv {T : TB} {st : Int32} {i : Nat} (h : InvT T) : InvT (zT T st i) := by
  refine ⟨h.1, h.2.1, fun d hd w hw => ?_⟩
  show 0 ≤ (if _ then (0 : Int32) else T.2.2.2 w d).toInt ∧ (if _ then (0 : Int32) else T.2.2.2 w d).toInt ≤ mx w
  split
  · rename_i e
    rw [e.1]
    exact ⟨by decide, by decide⟩
  · exact h.2.2 d hd w hw
def rulB (L : List Int32 × List Int32) (h : Int32) (n d : Nat) (T : TB) : Bool := decide (sayN ((mealsT L h n T).2.2.2 2) (clmD L.1 (mealsT L h n T)) (mealsT L h n T).1 = some d)
theorem meal_dead {L : List Int32 × List Int32} {T : TB} {h : Int32} {d : Nat} (hI : InvT T) (h0 : 0 ≤ h.toInt) (hd : d < T.1) (hz : T.2.2.2 2 d = 0) : (mealT L T h).2.2.2.2 2 d = 0 := by
  obtain ⟨-, r2⟩ := eatN_rg (N := T.1) (cl := clmD L.1 T) T.1 (T.2.2.2 2) (acM L T) h h0 (fun j hj => (hI.2.2 j hj 2 (by decide)).1)
  have a := r2 d hd
  rw [hz, Int32.toInt_zero] at a
  have e : (eatN T.1 (clmD L.1 T) T.1 (T.2.2.2 2) (acM L T) h).1 d = 0 := Int32.toInt_inj.mp (by rw [Int32.toInt_zero]; omega)
  show agF (tS T (eatN T.1 (clmD L.1 T) T.1 (T.2.2.2 2) (acM L T) h).1).2.2.2 2 d = 0
  unfold agF
  have e2 : (tS T (eatN T.1 (clmD L.1 T) T.1 (T.2.2.2 2) (acM L T) h).1).2.2.2 2 d = 0 := by
    show (if 2 = 2 then (eatN T.1 (clmD L.1 T) T.1 (T.2.2.2 2) (acM L T) h).1 d else T.2.2.2 2 d) = (0 : Int32)
    rw [if_pos rfl]
    exact e
  rw [e2, if_pos (by decide)]
theorem rul_dead {L : List Int32 × List Int32} {h : Int32} (h0 : 0 ≤ h.toInt) (h1 : h.toInt ≤ 99) {d : Nat} : ∀ (n : Nat) (T : TB), InvT T → d < T.1 → T.2.2.2 2 d = 0 → rulB L h n d T = false := by
  intro n
  induction n with
  | zero =>
    intro T hI hd hz
    unfold rulB
    refine decide_eq_false (fun e => ?_)
    have := (sayN_lt e).2
    rw [show mealsT L h 0 T = T from rfl, hz] at this
    exact this (by decide)
  | succ n ih =>
    intro T hI hd hz
    obtain ⟨i1, -, -, i2⟩ := mealT_inv (L := L) hI h0 h1
    exact ih (mealT L T h).2 i1 (by rw [i2]; exact hd) (meal_dead hI h0 hd hz)
theorem enc_eq {o : Option Nat} {d : Nat} (h : ∀ b, o = some b → b < 9) (hd : d < 9) : enc o = nI d ↔ o = some d := by
  cases o with
  | none => exact ⟨fun e => absurd (show (nI d) < 0 by rw [← e]; decide) (nI_pos (by omega)), fun e => by cases e⟩
  | some b =>
    have := h b rfl
    exact ⟨fun e => by rw [(nI_eq (a := b) (b := d) (by omega) (by omega)).mp e], fun e => by cases e; rfl⟩
theorem e_rulesWithout {S : St} {Q : Int32 → St → Prop} {T : TB} {L : List Int32 × List Int32} {st h : Int32} {d m : Nat} (hI : InvT T) (hb : tbC S 3 T) (hL : lawsC S L) (hwf : wfL L) (hd : d < T.1) (hm : m ≤ 60) (h0 : 0 ≤ h.toInt) (h1 : h.toInt ≤ 99) (hQ : ∀ S1, FrO 5 S S1 → Q (b2i (rulB L h m d (zT T st T.1))) S1) : E_X6_rulesWithout st (nI d) (nI m) h S Q := by
  have h9 := hI.1
  have key2 : ∀ (n i : Nat) (T1 : TB) (S1 : St), i + n = m → InvT T1 → T1.1 = T.1 → FrO 5 S S1 → tbC S1 5 T1 → rulB L h n d T1 = rulB L h m d (zT T st T.1) → L_X6_rulesWithout_56 Q (n + 1) (nI d) (nI m) h (nI i) S1 := by
    intro n
    induction n with
    | zero =>
      intro i T1 S1 hi hI1 hN hF hb1 he
      unfold L_X6_rulesWithout_56
      rw [show i = m by omega, if_pos (nI_le (Nat.le_refl _) (by omega))]
      refine e_X4_sayer (Or.inr rfl) hb1 (hF.lw hL) hwf hI1.1 (fun S2 f2 _ => ?_)
      have fin := hQ S2 (hF.tr f2.t.o)
      rw [← he] at fin
      unfold rulB at fin
      rw [show mealsT L h 0 T1 = T1 from rfl] at fin
      have eq := enc_eq (o := sayN (T1.2.2.2 2) (clmD L.1 T1) T1.1) (d := d) (fun b hb => by have := (sayN_lt hb).1; omega) (by omega)
      by_cases e : sayN (T1.2.2.2 2) (clmD L.1 T1) T1.1 = some d
      · rw [decide_eq_true e] at fin
        rw [if_pos (eq.mpr e)]
        exact fin
      · rw [decide_eq_false e] at fin
        rw [if_neg (fun q => e (eq.mp q))]
        exact fin
    | succ n ih =>
      intro i T1 S1 hi hI1 hN hF hb1 he
      unfold L_X6_rulesWithout_56
      rw [if_neg (nI_ge (show i < m by omega) (by omega)), nI_clamp (by omega), show S1.2 5 7 d = T1.2.2.2 2 d from hb1.2.2.2 2 d (by decide) (by omega)]
      refine ⟨vp_in_nI (by omega) (by decide), ?_⟩
      by_cases hz : T1.2.2.2 2 d = 0
      · rw [if_pos hz]
        have fin := hQ S1 hF
        rw [← he, rul_dead h0 h1 (n + 1) T1 hI1 (by omega) hz] at fin
        exact fin
      · rw [if_neg hz]
        refine e_dine (Or.inr rfl) hI1 hb1 (hF.lw hL) hwf h0 h1 (fun S2 f2 t2 => ?_)
        simp only [nmI]
        rw [nI_1]
        obtain ⟨i1, -, -, i2⟩ := mealT_inv (L := L) hI1 h0 h1
        exact ih (i + 1) _ S2 (by omega) i1 (i2.trans hN) (hF.tr f2.o) t2 he
  have key : ∀ (n i : Nat) (S1 : St), i + n = T.1 → FrO 5 S S1 → tbC S1 5 (zT T st i) → L_X6_rulesWithout_14 Q (n + 1) st (nI d) (nI m) h (nI i) S1 := by
    intro n
    induction n with
    | zero =>
      intro i S1 hi hF hb1
      have e : i = T.1 := by omega
      subst e
      unfold L_X6_rulesWithout_14
      rw [show S1.1 5 2 = nI T.1 from hb1.1, if_pos (nI_le (Nat.le_refl _) (by omega))]
      exact ⟨m + 1, key2 m 0 _ S1 (by omega) (zT_inv hI) rfl hF hb1 rfl⟩
    | succ n ih =>
      intro i S1 hi hF hb1
      have hi1 : i < T.1 := by omega
      unfold L_X6_rulesWithout_14
      rw [show S1.1 5 2 = nI T.1 from hb1.1, if_neg (nI_ge hi1 (by omega)), nI_clamp (by omega)]
      simp only [nmI, nmS]
      rw [nI_1]
      by_cases hbit : ((st >>> (nI i &&& 31)) &&& 1) = 1
      · rw [if_pos hbit]
        refine ⟨vp_in_nI (by omega) (by decide), ih (i + 1) _ (by omega) (hF.tr FrO.row) (tbC_ext (tbC_set (w := 2) (d := i) (v := 0) (k := 7) rfl hb1) rfl rfl rfl (fun w d' hw hd' => ?_))⟩
        show (if w = 2 ∧ d' < i + 1 ∧ ((st >>> (nI d' &&& 31)) &&& 1) = 1 then 0 else T.2.2.2 w d') = if w = 2 ∧ d' = i then 0 else if w = 2 ∧ d' < i ∧ ((st >>> (nI d' &&& 31)) &&& 1) = 1 then 0 else T.2.2.2 w d'
        by_cases e : w = 2 ∧ d' = i
        · rw [if_pos e, e.2, if_pos ⟨e.1, Nat.lt_succ_self i, hbit⟩]
        · rw [if_neg e]
          by_cases e2 : w = 2 ∧ d' < i ∧ ((st >>> (nI d' &&& 31)) &&& 1) = 1
          · rw [if_pos e2, if_pos ⟨e2.1, by omega, e2.2.2⟩]
          · rw [if_neg e2, if_neg (fun q => e2 ⟨q.1, by omega, q.2.2⟩)]
      · rw [if_neg hbit]
        refine ih (i + 1) S1 (by omega) hF (tbC_ext hb1 rfl rfl rfl (fun w d' hw hd' => ?_))
        show (if w = 2 ∧ d' < i + 1 ∧ ((st >>> (nI d' &&& 31)) &&& 1) = 1 then 0 else T.2.2.2 w d') = if w = 2 ∧ d' < i ∧ ((st >>> (nI d' &&& 31)) &&& 1) = 1 then 0 else T.2.2.2 w d'
        by_cases e2 : w = 2 ∧ d' < i ∧ ((st >>> (nI d' &&& 31)) &&& 1) = 1
        · rw [if_pos e2, if_pos ⟨e2.1, by omega, e2.2.2⟩]
        · rw [if_neg e2, if_neg (fun q => by
            by_cases e : d' = i
            · rw [e] at q; exact hbit q.2.2
            · exact e2 ⟨q.1, by omega, q.2.2⟩)]
  unfold E_X6_rulesWithout
  refine e_take (by decide) hb h9 (fun S1 f1 _ t1 => ⟨T.1 + 1, key T.1 0 S1 (by omega) f1 (tbC_ext t1 rfl rfl rfl (fun w d' hw hd' => ?_))⟩)
  show (if w = 2 ∧ d' < 0 ∧ _ then 0 else T.2.2.2 w d') = T.2.2.2 w d'
  rw [if_neg (fun q => absurd q.2.1 (Nat.not_lt_zero _))]
theorem e_doesRule {S : St} {Q : Int32 → St → Prop} {T : TB} {L : List Int32 × List Int32} {st h : Int32} {d m : Nat} (hI : InvT T) (hb : tbM S T) (hL : lawsM S L) (hwf : wfL L) (hd : d < T.1) (hm : m ≤ 60) (h0 : 0 ≤ h.toInt) (h1 : h.toInt ≤ 99) (hQ : ∀ S1, FrL S S1 → Q (b2i (rulB L h m d (zT T st T.1))) S1) : E_X7_doesRule (nI d) (nI m) h st S Q := by
  have h9 := hI.1
  have v5 : vp_in (5 : Int32) 387 := vp_in_nI (n := 5) (by decide) (by decide)
  unfold E_X7_doesRule
  refine e_layDown (fun g hg => ?_)
  have key : ∀ (n i : Nat) (S1 : St), i + n = T.1 → FrM (stR S 17 2 g) S1 → tbM S1 (zT T st i) → L_X7_doesRule_7 Q (n + 1) (nI d) (nI m) h st (nI i) S1 := by
    intro n
    induction n with
    | zero =>
      intro i S1 hi hF hb1
      have e : i = T.1 := by omega
      subst e
      have hIz := zT_inv (st := st) (i := T.1) hI
      unfold L_X7_doesRule_7
      rw [show (5 : Int32).toNatClampNeg = 5 by decide, show S1.2 17 0 5 = nI T.1 from hb1.1, if_pos (nI_le (Nat.le_refl _) (by omega))]
      refine ⟨v5, e_goes hm rfl hIz hb1 (hF.lw (lay_lw hL)) hwf h0 h1 (fun S2 f2 t2 => ?_)⟩
      have hI2 := mealsT_inv (L := L) h0 h1 m _ hIz
      refine e_X7_findRuler t2 (f2.lw (hF.lw (lay_lw hL))) hwf hI2.1.1 (fun S3 f3 _ => ?_)
      have fin := hQ _ (lay_back hg ((hF.tr f2).tr f3.m))
      unfold rulB at fin
      have eq := enc_eq (o := sayN ((mealsT L h m (zT T st T.1)).2.2.2 2) (clmD L.1 (mealsT L h m (zT T st T.1))) (mealsT L h m (zT T st T.1)).1) (d := d) (fun b hb => by
        have q := (sayN_lt hb).1
        have q2 := hI2.1.1
        omega) (by omega)
      by_cases e : sayN ((mealsT L h m (zT T st T.1)).2.2.2 2) (clmD L.1 (mealsT L h m (zT T st T.1))) (mealsT L h m (zT T st T.1)).1 = some d
      · rw [decide_eq_true e] at fin
        rw [if_pos (eq.mpr e)]
        exact e_layBack fin
      · rw [decide_eq_false e] at fin
        rw [if_neg (fun q => e (eq.mp q))]
        exact e_layBack fin
    | succ n ih =>
      intro i S1 hi hF hb1
      have hi1 : i < T.1 := by omega
      have hi9 : i < 9 := by omega
      unfold L_X7_doesRule_7
      rw [show (5 : Int32).toNatClampNeg = 5 by decide, show S1.2 17 0 5 = nI T.1 from hb1.1, if_neg (nI_ge hi1 (by omega))]
      refine ⟨v5, ?_⟩
      simp only [nmI]
      rw [nI_1]
      by_cases hbit : ((st >>> (nI i &&& 31)) &&& 1) = 1
      · rw [if_pos hbit]
        refine e_lays1 (w := 2) hi9 (by decide) rfl (ih (i + 1) _ (by omega) (hF.tr (FrM.set (by omega))) (tbM_ext (tbM_set (T := zT T st i) (w := 2) (d := i) (v := 0) (by decide) hi9 h9 hb1) rfl rfl rfl (fun w d' hw hd' => ?_)))
        show (if w = 2 ∧ d' < i + 1 ∧ ((st >>> (nI d' &&& 31)) &&& 1) = 1 then 0 else T.2.2.2 w d') = if w = 2 ∧ d' = i then 0 else if w = 2 ∧ d' < i ∧ ((st >>> (nI d' &&& 31)) &&& 1) = 1 then 0 else T.2.2.2 w d'
        by_cases e : w = 2 ∧ d' = i
        · rw [if_pos e, e.2, if_pos ⟨e.1, Nat.lt_succ_self i, hbit⟩]
        · rw [if_neg e]
          by_cases e2 : w = 2 ∧ d' < i ∧ ((st >>> (nI d' &&& 31)) &&& 1) = 1
          · rw [if_pos e2, if_pos ⟨e2.1, by omega, e2.2.2⟩]
          · rw [if_neg e2, if_neg (fun q => e2 ⟨q.1, by omega, q.2.2⟩)]
      · rw [if_neg hbit]
        refine e_its (w := 2) hi9 (by decide) rfl (e_lays1 (w := 2) hi9 (by decide) rfl (ih (i + 1) _ (by omega) (hF.tr (FrM.set (by omega))) (tbM_ext (tbM_set (T := zT T st i) (w := 2) (d := i) (by decide) hi9 h9 hb1) rfl rfl rfl (fun w d' hw hd' => ?_))))
        rw [hb1.2.2.2 2 i (by decide) hi1]
        have ez : (zT T st i).2.2.2 2 i = T.2.2.2 2 i := by
          show (if 2 = 2 ∧ i < i ∧ _ then 0 else T.2.2.2 2 i) = _
          rw [if_neg (fun q => absurd q.2.1 (Nat.lt_irrefl i))]
        rw [ez]
        show (if w = 2 ∧ d' < i + 1 ∧ ((st >>> (nI d' &&& 31)) &&& 1) = 1 then 0 else T.2.2.2 w d') = if w = 2 ∧ d' = i then T.2.2.2 2 i else if w = 2 ∧ d' < i ∧ ((st >>> (nI d' &&& 31)) &&& 1) = 1 then 0 else T.2.2.2 w d'
        by_cases e : w = 2 ∧ d' = i
        · rw [if_pos e, e.2, e.1, if_neg (fun q => hbit q.2.2)]
        · rw [if_neg e]
          by_cases e2 : w = 2 ∧ d' < i ∧ ((st >>> (nI d' &&& 31)) &&& 1) = 1
          · rw [if_pos e2, if_pos ⟨e2.1, by omega, e2.2.2⟩]
          · rw [if_neg e2, if_neg (fun q => e2 ⟨q.1, by omega, q.2.2⟩)]
  refine ⟨T.1 + 1, key T.1 0 _ (by omega) FrM.rf (tbM_ext (lay_tb hb) rfl rfl rfl (fun w d' hw hd' => ?_))⟩
  show (if w = 2 ∧ d' < 0 ∧ _ then 0 else T.2.2.2 w d') = T.2.2.2 w d'
  rw [if_neg (fun q => absurd q.2.1 (Nat.not_lt_zero _))]
def mIn (x : Int32) : Nat → Int32
  | 0 => 0
  | k + 1 => mIn x k + ((x >>> (nI k &&& 31)) &&& 1)
theorem e_manyIn {S : St} {Q : Int32 → St → Prop} {x : Int32} (h : Q (mIn x 9) S) : E_X7_manyIn x S Q := by
  have key : ∀ (n i : Nat), i + n = 9 → L_X7_manyIn_4 Q (n + 1) x (mIn x i) (nI i) S := by
    intro n
    induction n with
    | zero =>
      intro i hi
      unfold L_X7_manyIn_4
      rw [show i = 9 by omega, if_pos (by decide)]
      exact h
    | succ n ih =>
      intro i hi
      unfold L_X7_manyIn_4
      rw [if_neg (show ¬ (9 : Int32) ≤ nI i from nI_ge (a := i) (b := 9) (by omega) (by decide))]
      simp only [nmI]
      rw [nI_1]
      exact ih (i + 1) (by omega)
  exact ⟨10, key 9 0 (by omega)⟩
def bc1 (x : Int32) : Int32 := x - (((x.toUInt32 >>> ((1 : Int32).toUInt32 &&& Int32.toUInt32 31)).toInt32) &&& 1431655765)
def bc2 (v1 : Int32) : Int32 := (v1 &&& 858993459) + (((v1.toUInt32 >>> ((2 : Int32).toUInt32 &&& Int32.toUInt32 31)).toInt32) &&& 858993459)
def bc3 (v2 : Int32) : Int32 := (v2 + ((v2.toUInt32 >>> ((4 : Int32).toUInt32 &&& Int32.toUInt32 31)).toInt32)) &&& 252645135
def bc4 (v3 : Int32) : Int32 := v3 + ((v3.toUInt32 >>> ((8 : Int32).toUInt32 &&& Int32.toUInt32 31)).toInt32)
def bc5 (v4 : Int32) : Int32 := v4 + ((v4.toUInt32 >>> ((16 : Int32).toUInt32 &&& Int32.toUInt32 31)).toInt32)
def bcI (x : Int32) : Int32 := bc5 (bc4 (bc3 (bc2 (bc1 x)))) &&& 63
theorem e_bitCount {S : St} {Q : Int32 → St → Prop} {x : Int32} (h : Q (bcI x) S) : E_J6_bitCount_0f7a4 x S Q := h
theorem bc_tab : ∀ s : Nat, s < 512 → bcI (nI s) = mIn (nI s) 9 ∧ 0 ≤ (mIn (nI s) 9).toInt ∧ (mIn (nI s) 9).toInt ≤ 9 := by decide +kernel
theorem bc_le : ∀ N : Nat, N ≤ 9 → ∀ s : Nat, s < 2 ^ N → (mIn (nI s) 9).toInt ≤ N := by decide +kernel
