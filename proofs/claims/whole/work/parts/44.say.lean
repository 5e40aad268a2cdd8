/-! CLAIMS, KEEPING, THE SAY -/
theorem near_m {a b : Int32} : near a b = if lg_cmp (a.toInt64 - b.toInt64) (-2) ≤ 0 then 0 else if 0 ≤ lg_cmp (a.toInt64 - b.toInt64) 2 then 0 else 1 := by
  have hv : (a.toInt64 - b.toInt64).toInt = a.toInt - b.toInt := lg_i2l_sub a b
  have a1 := Int32.toInt_lt a
  have a2 := Int32.le_toInt a
  have b1 := Int32.toInt_lt b
  have b2 := Int32.le_toInt b
  unfold near
  generalize a.toInt64 - b.toInt64 = v at hv ⊢
  have hn : (-v).toInt = -v.toInt := Jvm.Kit.i64_neg (by omega)
  have t2 : (2 : Int64).toInt = 2 := by decide
  have t3 : (-2 : Int64).toInt = -2 := by decide
  simp only [lg_cmp_ge, lg_cmp_le, Int64.le_iff_toInt_le, Int64.lt_iff_toInt_lt, Int64.toInt_zero, t2, t3]
  by_cases h0 : 0 < v.toInt
  · rw [if_pos h0, if_neg (show ¬ v.toInt ≤ -2 by omega)]
  · rw [if_neg h0, hn]
    by_cases h1 : v.toInt ≤ -2
    · rw [if_pos h1, if_pos (by omega)]
    · rw [if_neg h1, if_neg (by omega), if_neg (by omega)]
theorem e_keepingTold {L : List Int32 × List Int32} {a b c : Int32} {S : St} {Q : Int32 → St → Prop} (hL : lawsM S L) (hwf : wfL L) (hQ : ∀ S1, FrN S S1 → Q (kpn L.2 a b c) S1) : E_X7_keepingTold a b c S Q := by
  unfold E_X7_keepingTold
  refine e_hasText (u := 1) (by decide) rfl hL.2 hwf.2.1 ?_
  by_cases e : L.2 = []
  · rw [if_pos e, if_pos rfl]
    have := hQ _ FrN.rf
    unfold kpn raw at this
    rw [if_pos e, near_m] at this
    simp only [nmL]
    by_cases h1 : lg_cmp (a.toInt64 - b.toInt64) (-2) ≤ 0
    · rw [if_pos h1] at this ⊢
      exact this
    · rw [if_neg h1] at this ⊢
      by_cases h2 : 0 ≤ lg_cmp (a.toInt64 - b.toInt64) 2
      · rw [if_pos h2] at this ⊢
        exact this
      · rw [if_neg h2] at this ⊢
        exact this
  · rw [if_neg e, if_neg (by decide)]
    refine ⟨vp_in_nI (n := 102) (by decide) (by decide), ?_⟩
    simp only [nmS]
    refine ⟨vp_in_nI (n := 114) (by decide) (by decide), vp_in_nI (n := 100) (by decide) (by decide), ?_⟩
    simp only [st_same, st_st]
    rw [show (102 : Int32).toNatClampNeg = 102 by decide, show (114 : Int32).toNatClampNeg = 114 by decide, show (100 : Int32).toNatClampNeg = 100 by decide]
    have hF : FrN S (stR S 17 10 (upd (upd (upd (S.2 17 10) 102 a) 114 b) 100 c)) := FrN.row (by decide) (by decide)
    refine e_worked (u := 1) (a := a) (b := b) (c := c) (by decide) rfl (hF.g.lw hL).2 hwf.2 e (by rw [st_same]; rfl) (by rw [st_same]; rfl) (by rw [st_same]; rfl) (fun w0 g => e_held ?_)
    have := hQ _ (hF.tr (FrN.row (k := 11) (f := g) (by decide) (by decide)))
    unfold kpn raw at this
    unfold raw
    rw [if_neg e] at this ⊢
    exact this
/-- what a dish claims by its kind -/
def ckF (day : Int32) (f : Nat → Nat → Int32) (d : Nat) : Int32 := if f 0 d = 1 then (f 3 d + f 2 d / 10) + f 1 d else if f 0 d = 2 then 2 * (f 3 d + f 2 d / 10) else if f 0 d = 3 then (if day - day / 7 * 7 = 4 then 50 + f 1 d else f 3 d + f 2 d / 10) else if f 0 d = 4 then ((f 3 d + f 2 d / 10) + f 1 d) + (f 2 d - f 2 d / 7 * 7) else if f 0 d = 5 then (2 * (f 3 d + f 2 d / 10)) + 40 else if f 0 d = 6 then (f 3 d + f 2 d / 10) - f 4 d else f 3 d + f 2 d / 10
def clmD (tc : List Int32) (T : TB) (d : Nat) : Int32 := clm tc (ckF T.2.1 T.2.2.2 d) (T.2.2.2 3 d) (T.2.2.2 2 d)
theorem e_its {S : St} {Q : Int32 → St → Prop} {d w : Nat} {x : Int32} (hd : d < 9) (hw : w < 5) (hx : x = nI w) (h : Q (S.2 17 0 (8 + 5 * d + w)) S) : E_X7_its (nI d) x S Q := by
  subst hx
  unfold E_X7_its
  rw [show ((8 : Int32) + (5 * nI d)) + nI w = nI (8 + 5 * d + w) by rw [show (5 : Int32) = nI 5 from rfl, pk_mul, show (8 : Int32) = nI 8 from rfl, nI_add, nI_add], nI_clamp (by omega)]
  exact ⟨vp_in_nI (by omega) (by decide), h⟩
theorem e_X4_claimOfKind {S : St} {Q : Int32 → St → Prop} {t d : Nat} {T : TB} (hb : tbC S t T) (hd : d < T.1) (h9 : T.1 ≤ 9) (h : Q (ckF T.2.1 T.2.2.2 d) S) : E_X4_claimOfKind t (nI d) S Q := by
  have hv : vp_in (nI d) 9 := vp_in_nI (by omega) (by decide)
  have r0 : S.2 t 5 d = T.2.2.2 0 d := hb.2.2.2 0 d (by decide) hd
  have r1 : S.2 t 6 d = T.2.2.2 1 d := hb.2.2.2 1 d (by decide) hd
  have r2 : S.2 t 7 d = T.2.2.2 2 d := hb.2.2.2 2 d (by decide) hd
  have r3 : S.2 t 8 d = T.2.2.2 3 d := hb.2.2.2 3 d (by decide) hd
  have r4 : S.2 t 9 d = T.2.2.2 4 d := hb.2.2.2 4 d (by decide) hd
  unfold E_X4_claimOfKind
  rw [nI_clamp (by omega), r0, r1, r2, r3, r4, hb.2.1]
  refine ⟨hv, hv, ?_⟩
  simp only [nmI]
  refine ⟨hv, ?_⟩
  unfold ckF at h
  by_cases c1 : T.2.2.2 0 d = 1
  · rw [if_pos c1] at h ⊢; exact ⟨hv, h⟩
  rw [if_neg c1] at h ⊢
  by_cases c2 : T.2.2.2 0 d = 2
  · rw [if_pos c2] at h ⊢; exact h
  rw [if_neg c2] at h ⊢
  by_cases c3 : T.2.2.2 0 d = 3
  · rw [if_pos c3] at h ⊢
    by_cases c7 : T.2.1 - T.2.1 / 7 * 7 = 4
    · rw [if_pos c7] at h ⊢; exact ⟨hv, h⟩
    · rw [if_neg c7] at h ⊢; exact h
  rw [if_neg c3] at h ⊢
  by_cases c4 : T.2.2.2 0 d = 4
  · rw [if_pos c4] at h ⊢; exact ⟨hv, hv, h⟩
  rw [if_neg c4] at h ⊢
  by_cases c5 : T.2.2.2 0 d = 5
  · rw [if_pos c5] at h ⊢; exact h
  rw [if_neg c5] at h ⊢
  by_cases c6 : T.2.2.2 0 d = 6
  · rw [if_pos c6] at h ⊢; exact ⟨hv, h⟩
  rw [if_neg c6] at h ⊢
  exact h
theorem e_X7_claimsOf {S : St} {Q : Int32 → St → Prop} {d : Nat} {T : TB} (hb : tbM S T) (hd : d < T.1) (h9 : T.1 ≤ 9) (h : Q (ckF T.2.1 T.2.2.2 d) S) : E_X7_claimsOf (nI d) S Q := by
  have h9 : d < 9 := by omega
  unfold E_X7_claimsOf
  refine e_its (w := 3) h9 (by decide) rfl ?_
  refine e_its (w := 2) h9 (by decide) rfl ?_
  simp only [nmI]
  refine e_its (w := 1) h9 (by decide) rfl ?_
  refine e_its (w := 0) h9 (by decide) rfl ?_
  rw [hb.2.2.2 0 d (by decide) hd, hb.2.2.2 1 d (by decide) hd, hb.2.2.2 2 d (by decide) hd, hb.2.2.2 3 d (by decide) hd, show (0 : Int32).toNatClampNeg = 0 by decide, hb.2.1]
  unfold ckF at h
  by_cases c1 : T.2.2.2 0 d = 1
  · rw [if_pos c1] at h ⊢; exact h
  rw [if_neg c1] at h ⊢
  by_cases c2 : T.2.2.2 0 d = 2
  · rw [if_pos c2] at h ⊢; exact h
  rw [if_neg c2] at h ⊢
  by_cases c3 : T.2.2.2 0 d = 3
  · rw [if_pos c3] at h ⊢
    refine ⟨vp_in_nI (n := 0) (by decide) (by decide), ?_⟩
    by_cases c7 : T.2.1 - T.2.1 / 7 * 7 = 4
    · rw [if_pos c7] at h ⊢; exact h
    · rw [if_neg c7] at h ⊢; exact h
  rw [if_neg c3] at h ⊢
  by_cases c4 : T.2.2.2 0 d = 4
  · rw [if_pos c4] at h ⊢
    refine e_its (w := 2) h9 (by decide) rfl ?_
    rw [hb.2.2.2 2 d (by decide) hd]
    exact h
  rw [if_neg c4] at h ⊢
  by_cases c5 : T.2.2.2 0 d = 5
  · rw [if_pos c5] at h ⊢; exact h
  rw [if_neg c5] at h ⊢
  by_cases c6 : T.2.2.2 0 d = 6
  · rw [if_pos c6] at h ⊢
    refine e_its (w := 4) h9 (by decide) rfl ?_
    rw [hb.2.2.2 4 d (by decide) hd]
    exact h
  rw [if_neg c6] at h ⊢
  exact h
theorem rf_t {t : Nat} (ht : t = 3 ∨ t = 5) : rf t 0 = 6 ∧ rf t 1 = 7 := by rcases ht with rfl | rfl <;> exact ⟨rfl, rfl⟩
theorem e_X4_claimOf {S : St} {Q : Int32 → St → Prop} {t d : Nat} {T : TB} {L : List Int32 × List Int32} (ht : t = 3 ∨ t = 5) (hb : tbC S t T) (hL : lawsC S L) (hwf : wfL L) (hd : d < T.1) (h9 : T.1 ≤ 9) (h : ∀ S1, FrK S S1 → Q (clmD L.1 T d) S1) : E_X4_claimOf t (nI d) S Q := by
  have hv : vp_in (nI d) 9 := vp_in_nI (by omega) (by decide)
  unfold E_X4_claimOf
  refine e_X4_claimOfKind hb hd h9 ⟨hv, hv, ?_⟩
  rw [(rf_t ht).1, nI_clamp (by omega), show S.2 t 8 d = T.2.2.2 3 d from hb.2.2.2 3 d (by decide) hd, show S.2 t 7 d = T.2.2.2 2 d from hb.2.2.2 2 d (by decide) hd]
  exact e_gives6 hL hwf h
theorem e_X7_claimOf {S : St} {Q : Int32 → St → Prop} {d : Nat} {T : TB} {L : List Int32 × List Int32} (hb : tbM S T) (hL : lawsM S L) (hwf : wfL L) (hd : d < T.1) (h9 : T.1 ≤ 9) (h : ∀ S1, FrN S S1 → Q (clmD L.1 T d) S1) : E_X7_claimOf (nI d) S Q := by
  unfold E_X7_claimOf
  refine e_X7_claimsOf hb hd h9 (e_its (w := 3) (by omega) (by decide) rfl (e_its (w := 2) (by omega) (by decide) rfl ?_))
  rw [hb.2.2.2 2 d (by decide) hd, hb.2.2.2 3 d (by decide) hd]
  exact e_claimTold hL hwf h
theorem hld_rg (m v : Int32) (hm : 0 ≤ m.toInt) : 0 ≤ (hld m v).toInt ∧ (hld m v).toInt ≤ m.toInt := by
  unfold hld
  simp only [Int32.le_iff_toInt_le, Int32.toInt_zero]
  split
  · split <;> omega
  · rw [Int32.toInt_zero]; omega
theorem clmD_rg (tc : List Int32) (T : TB) (d : Nat) : 0 ≤ (clmD tc T d).toInt ∧ (clmD tc T d).toInt ≤ 999 := hld_rg 999 _ (by decide)
/-- who has THE SAY among the first i: sizes, claims -/
def sayN (sz cl : Nat → Int32) : Nat → Option Nat
  | 0 => none
  | i + 1 => if sz i ≤ 0 then sayN sz cl i else match sayN sz cl i with
    | none => some i
    | some b => if cl i ≤ cl b then some b else some i
def enc : Option Nat → Int32
  | none => -1
  | some k => nI k
theorem sayN_lt {sz cl : Nat → Int32} : ∀ {i b : Nat}, sayN sz cl i = some b → b < i ∧ ¬ sz b ≤ 0 := by
  intro i
  induction i with
  | zero => intro b h; cases h
  | succ i ih =>
    intro b h
    unfold sayN at h
    by_cases hz : sz i ≤ 0
    · rw [if_pos hz] at h
      exact ⟨Nat.lt_succ_of_lt (ih h).1, (ih h).2⟩
    · rw [if_neg hz] at h
      cases hs : sayN sz cl i with
      | none =>
        rw [hs] at h
        cases h
        exact ⟨Nat.lt_succ_self i, hz⟩
      | some c =>
        rw [hs] at h
        dsimp only at h
        split at h
        · cases h; exact ⟨Nat.lt_succ_of_lt (ih hs).1, (ih hs).2⟩
        · cases h; exact ⟨Nat.lt_succ_self i, hz⟩
theorem e_X4_sayer {S : St} {Q : Int32 → St → Prop} {t : Nat} {T : TB} {L : List Int32 × List Int32} (ht : t = 3 ∨ t = 5) (hb : tbC S t T) (hL : lawsC S L) (hwf : wfL L) (h9 : T.1 ≤ 9) (h : ∀ S1, FrC t S S1 → (∀ j, j < T.1 → S1.2 t 10 j = if T.2.2.2 2 j ≤ 0 then -1 else clmD L.1 T j) → Q (enc (sayN (T.2.2.2 2) (clmD L.1 T) T.1)) S1) : E_X4_sayer t S Q := by
  have key : ∀ (n i : Nat) (S1 : St), i + n = T.1 → FrC t S S1 → (∀ j, j < i → S1.2 t 10 j = if T.2.2.2 2 j ≤ 0 then -1 else clmD L.1 T j) → L_X4_sayer_4 t Q (n + 1) (enc (sayN (T.2.2.2 2) (clmD L.1 T) i)) (nI i) S1 := by
    intro n
    induction n with
    | zero =>
      intro i S1 hi hF hc
      unfold L_X4_sayer_4
      have e : i = T.1 := by omega
      rw [(hF.tb ht hb).1, e, if_pos (nI_le (Nat.le_refl _) (by omega))]
      exact h S1 hF (by rw [← e]; exact hc)
    | succ n ih =>
      intro i S1 hi hF hc
      have hb1 := hF.tb ht hb
      have hi1 : i < T.1 := by omega
      have hv : vp_in (nI i) 9 := vp_in_nI (by omega) (by decide)
      have step : ∀ (S2 : St) (z : Int32), FrC t S S2 → S2.2 t 10 = S1.2 t 10 → z = (if T.2.2.2 2 i ≤ 0 then -1 else clmD L.1 T i) → J_X4_sayer_35 t (L_X4_sayer_4 t Q (n + 1)) Q (enc (sayN (T.2.2.2 2) (clmD L.1 T) i)) (nI i) z (nI i) S2 := by
        intro S2 z hF2 hrow hz
        have hF3 : FrC t S (stR S2 t 10 (upd (S2.2 t 10) i z)) := hF2.tr FrC.row
        have hk := ih (i + 1) _ (by omega) hF3 (fun j hj => by
          rw [st_same]
          unfold upd
          by_cases hji : j = i
          · rw [if_pos hji, hji]; exact hz
          · rw [if_neg hji, hrow]; exact hc j (by omega))
        unfold J_X4_sayer_35
        rw [nI_clamp (by omega)]
        refine ⟨hv, ?_⟩
        simp only [nmS, nmI, st_same]
        refine ⟨hv, ?_⟩
        rw [show upd (S2.2 t 10) i z i = z from pk_us, nI_1]
        by_cases hsz : T.2.2.2 2 i ≤ 0
        · rw [if_pos hsz] at hz
          rw [if_pos (by rw [hz]; decide)]
          rw [show sayN (T.2.2.2 2) (clmD L.1 T) (i + 1) = sayN (T.2.2.2 2) (clmD L.1 T) i by rw [sayN, if_pos hsz]] at hk
          exact hk
        · rw [if_neg hsz] at hz
          have hr := clmD_rg L.1 T i
          rw [if_neg (by rw [hz, Int32.lt_iff_toInt_lt, Int32.toInt_zero]; omega)]
          cases hs : sayN (T.2.2.2 2) (clmD L.1 T) i with
          | none =>
            rw [show enc none = -1 from rfl, if_pos (by decide)]
            rw [show sayN (T.2.2.2 2) (clmD L.1 T) (i + 1) = some i by rw [sayN, if_neg hsz, hs]] at hk
            exact hk
          | some b =>
            obtain ⟨hbi, hbz⟩ := sayN_lt hs
            rw [show enc (some b) = nI b from rfl, if_neg (nI_pos (by omega)), nI_clamp (by omega)]
            refine ⟨hv, vp_in_nI (by omega) (by decide), ?_⟩
            rw [show upd (S2.2 t 10) i z b = clmD L.1 T b by rw [pk_un (by omega), hrow, hc b hbi, if_neg hbz]]
            rw [sayN, if_neg hsz, hs] at hk
            dsimp only at hk
            by_cases hcl : clmD L.1 T i ≤ clmD L.1 T b
            · rw [if_pos hcl] at hk
              rw [if_pos (by rw [hz]; exact hcl)]
              exact hk
            · rw [if_neg hcl] at hk
              rw [if_neg (by rw [hz]; exact hcl)]
              exact hk
      have r2 : S1.2 t 7 i = T.2.2.2 2 i := hb1.2.2.2 2 i (by decide) hi1
      unfold L_X4_sayer_4
      rw [hb1.1, if_neg (nI_ge hi1 (by omega)), nI_clamp (by omega), r2]
      refine ⟨hv, ?_⟩
      by_cases hsz : T.2.2.2 2 i ≤ 0
      · rw [if_pos hsz]
        exact step S1 (-1) hF rfl (by rw [if_pos hsz])
      · rw [if_neg hsz]
        refine e_X4_claimOf ht hb1 (hF.lw ht hL) hwf hi1 h9 (fun S2 hK => step S2 _ (hF.tr hK.c) (hK.2 t 10 (by omega)) (by rw [if_neg hsz]))
  exact ⟨T.1 + 1, key T.1 0 S (by omega) FrC.rf (fun j hj => absurd hj (by omega))⟩
theorem e_X7_findRuler {S : St} {Q : Int32 → St → Prop} {T : TB} {L : List Int32 × List Int32} (hb : tbM S T) (hL : lawsM S L) (hwf : wfL L) (h9 : T.1 ≤ 9) (h : ∀ S1, FrG S S1 → (∀ j, j < T.1 → S1.2 17 12 j = clmD L.1 T j) → Q (enc (sayN (T.2.2.2 2) (clmD L.1 T) T.1)) S1) : E_X7_findRuler S Q := by
  have key : ∀ (n i : Nat) (S1 : St), i + n = T.1 → FrG S S1 → (∀ j, j < i → S1.2 17 12 j = clmD L.1 T j) → L_X7_findRuler_4 Q (n + 1) (enc (sayN (T.2.2.2 2) (clmD L.1 T) i)) (nI i) S1 := by
    intro n
    induction n with
    | zero =>
      intro i S1 hi hF hc
      unfold L_X7_findRuler_4
      have e : i = T.1 := by omega
      rw [show (5 : Int32).toNatClampNeg = 5 by decide, (hF.tb hb).1, e, if_pos (nI_le (Nat.le_refl _) (by omega))]
      exact ⟨vp_in_nI (n := 5) (by decide) (by decide), h S1 hF (by rw [← e]; exact hc)⟩
    | succ n ih =>
      intro i S1 hi hF hc
      have hb1 := hF.tb hb
      have hi1 : i < T.1 := by omega
      have hv : vp_in (nI i) 9 := vp_in_nI (by omega) (by decide)
      unfold L_X7_findRuler_4
      rw [show (5 : Int32).toNatClampNeg = 5 by decide, hb1.1, if_neg (nI_ge hi1 (by omega)), nI_clamp (by omega)]
      refine ⟨vp_in_nI (n := 5) (by decide) (by decide), e_X7_claimOf hb1 (hF.lw hL) hwf hi1 h9 (fun S2 hG => ⟨hv, ?_⟩)⟩
      have hF3 : FrG S (stR S2 17 12 (upd (S2.2 17 12) i (clmD L.1 T i))) := (hF.tr hG.g).tr (FrG.row (by decide) (by decide))
      simp only [nmS, nmI]
      refine e_its (w := 2) (by omega) (by decide) rfl ?_
      rw [(hF3.tb hb).2.2.2 2 i (by decide) hi1]
      have hk := ih (i + 1) _ (by omega) hF3 (fun j hj => by
        rw [st_same]
        unfold upd
        by_cases hji : j = i
        · rw [if_pos hji, hji]
        · rw [if_neg hji, hG.2 17 12 (by omega)]
          exact hc j (by omega))
      rw [nI_1]
      by_cases hsz : T.2.2.2 2 i ≤ 0
      · rw [if_pos hsz]
        rw [show sayN (T.2.2.2 2) (clmD L.1 T) (i + 1) = sayN (T.2.2.2 2) (clmD L.1 T) i by rw [sayN, if_pos hsz]] at hk
        exact hk
      · rw [if_neg hsz]
        cases hs : sayN (T.2.2.2 2) (clmD L.1 T) i with
        | none =>
          rw [show enc none = -1 from rfl, if_pos rfl]
          rw [show sayN (T.2.2.2 2) (clmD L.1 T) (i + 1) = some i by rw [sayN, if_neg hsz, hs]] at hk
          exact hk
        | some b =>
          obtain ⟨hbi, hbz⟩ := sayN_lt hs
          rw [show enc (some b) = nI b from rfl, if_neg (fun e => nI_pos (n := b) (by omega) (by rw [e]; decide)), nI_clamp (by omega)]
          refine ⟨hv, vp_in_nI (by omega) (by decide), ?_⟩
          rw [st_same, show upd (S2.2 17 12) i (clmD L.1 T i) i = clmD L.1 T i from pk_us, show upd (S2.2 17 12) i (clmD L.1 T i) b = clmD L.1 T b by rw [pk_un (by omega), hG.2 17 12 (by omega), hc b hbi]]
          rw [sayN, if_neg hsz, hs] at hk
          dsimp only at hk
          by_cases hcl : clmD L.1 T i ≤ clmD L.1 T b
          · rw [if_pos hcl] at hk ⊢
            exact hk
          · rw [if_neg hcl] at hk ⊢
            exact hk
  exact ⟨T.1 + 1, key T.1 0 S (by omega) FrG.rf (fun j hj => absurd hj (by omega))⟩
