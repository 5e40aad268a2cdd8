/-! A MEAL on both sides -/
def mx (w : Nat) : Int := if w = 0 then 6 else if w = 1 then 9 else if w = 2 then 99 else if w = 3 then 999 else 9
def InvT (T : TB) : Prop := T.1 ≤ 9 ∧ (0 ≤ T.2.2.1.toInt ∧ T.2.2.1.toInt ≤ 99999) ∧ ∀ d, d < T.1 → ∀ w, w < 5 → 0 ≤ (T.2.2.2 w d).toInt ∧ (T.2.2.2 w d).toInt ≤ mx w
def spV (k m a : Int32) : Int32 := if k = 2 then a / 5 + 1 else if k = 3 then 0 else if k = 4 then (if a / 5 ≤ 0 then 0 else a / 5 - 1) else if k = 5 then (if m ≤ 4 then a / 5 + 1 else 0) else if k = 6 then (a / 5 * m) / 4 else a / 5
theorem div5 {a : Int32} (h0 : 0 ≤ a.toInt) : (a / 5).toInt = a.toInt / 5 := by
  rw [Jvm.Kit.i32_div (by rw [show (5 : Int32).toInt = 5 by decide]; omega), show (5 : Int32).toInt = 5 by decide, Int.tdiv_eq_ediv_of_nonneg h0]
theorem spV_rg {k m a : Int32} (h0 : 0 ≤ a.toInt) (h1 : a.toInt ≤ 999) (g0 : 0 ≤ m.toInt) (g1 : m.toInt ≤ 9) : 0 ≤ (spV k m a).toInt ∧ (spV k m a).toInt ≤ 2000 := by
  have e := div5 h0
  have t1 : (1 : Int32).toInt = 1 := by decide
  unfold spV
  split
  · rw [Jvm.Kit.i32_add (by omega) (by omega)]; omega
  split
  · decide
  split
  · split
    · decide
    · rename_i h
      rw [Int32.le_iff_toInt_le, Int32.toInt_zero] at h
      rw [Jvm.Kit.i32_sub (by omega) (by omega)]; omega
  split
  · split
    · rw [Jvm.Kit.i32_add (by omega) (by omega)]; omega
    · decide
  split
  · have b1 : 0 ≤ (a / 5).toInt * m.toInt := Int.mul_nonneg (by omega) g0
    have b2 : (a / 5).toInt * m.toInt ≤ 199 * 9 := Int.mul_le_mul (by omega) g1 g0 (by omega)
    have e2 : ((a / 5) * m).toInt = (a / 5).toInt * m.toInt := Jvm.Kit.i32_mul (by omega) (by omega)
    rw [Jvm.Kit.i32_div (by rw [show (4 : Int32).toInt = 4 by decide]; omega), e2, show (4 : Int32).toInt = 4 by decide, Int.tdiv_eq_ediv_of_nonneg b1]
    omega
  · omega
theorem e_X4_spoilOf {S : St} {Q : Int32 → St → Prop} {t d : Nat} {T : TB} (hb : tbC S t T) (hd : d < T.1) (h9 : T.1 ≤ 9) (h0 : 0 ≤ (T.2.2.2 3 d).toInt) (h1 : (T.2.2.2 3 d).toInt ≤ 999) (h : Q (spV (T.2.2.2 0 d) (T.2.2.2 1 d) (T.2.2.2 3 d)) S) : E_X4_spoilOf t (nI d) S Q := by
  have hv : vp_in (nI d) 9 := vp_in_nI (by omega) (by decide)
  have r0 : S.2 t 5 d = T.2.2.2 0 d := hb.2.2.2 0 d (by decide) hd
  have r1 : S.2 t 6 d = T.2.2.2 1 d := hb.2.2.2 1 d (by decide) hd
  have r3 : S.2 t 8 d = T.2.2.2 3 d := hb.2.2.2 3 d (by decide) hd
  have e := div5 h0
  unfold E_X4_spoilOf
  rw [nI_clamp (by omega), r0, r1, r3]
  refine ⟨hv, ?_⟩
  simp only [nmI]
  refine ⟨hv, ?_⟩
  unfold spV at h
  by_cases c2 : T.2.2.2 0 d = 2
  · rw [if_pos c2] at h ⊢; exact h
  rw [if_neg c2] at h ⊢
  by_cases c3 : T.2.2.2 0 d = 3
  · rw [if_pos c3] at h ⊢; exact h
  rw [if_neg c3] at h ⊢
  by_cases c4 : T.2.2.2 0 d = 4
  · rw [if_pos c4] at h ⊢
    have e3 : (if (0 : Int32) < T.2.2.2 3 d / 5 - 1 then T.2.2.2 3 d / 5 - 1 else 0) = if T.2.2.2 3 d / 5 ≤ 0 then 0 else T.2.2.2 3 d / 5 - 1 := by
      have e4 : (T.2.2.2 3 d / 5 - 1).toInt = (T.2.2.2 3 d / 5).toInt - 1 := by
        rw [Jvm.Kit.i32_sub (by rw [show (1 : Int32).toInt = 1 by decide]; omega) (by rw [show (1 : Int32).toInt = 1 by decide]; omega), show (1 : Int32).toInt = 1 by decide]
      simp only [Int32.lt_iff_toInt_lt, Int32.le_iff_toInt_le, Int32.toInt_zero]
      by_cases q : (T.2.2.2 3 d / 5).toInt ≤ 0
      · rw [if_pos q, if_neg (by omega)]
      · rw [if_neg q]
        by_cases q2 : 0 < (T.2.2.2 3 d / 5 - 1).toInt
        · rw [if_pos q2]
        · rw [if_neg q2]
          exact Int32.toInt_inj.mp (by rw [Int32.toInt_zero]; omega)
    rw [e3]
    exact h
  rw [if_neg c4] at h ⊢
  by_cases c5 : T.2.2.2 0 d = 5
  · rw [if_pos c5] at h ⊢
    refine ⟨hv, ?_⟩
    by_cases c6 : T.2.2.2 1 d ≤ 4
    · rw [if_pos c6] at h ⊢; exact h
    · rw [if_neg c6] at h ⊢; exact h
  rw [if_neg c5] at h ⊢
  by_cases c6 : T.2.2.2 0 d = 6
  · rw [if_pos c6] at h ⊢; exact ⟨hv, h⟩
  rw [if_neg c6] at h ⊢
  exact h
theorem e_X7_spoilsOf {S : St} {Q : Int32 → St → Prop} {d : Nat} {T : TB} (hb : tbM S T) (hd : d < T.1) (h9 : T.1 ≤ 9) (h : Q (spV (T.2.2.2 0 d) (T.2.2.2 1 d) (T.2.2.2 3 d)) S) : E_X7_spoilsOf (nI d) S Q := by
  have h9 : d < 9 := by omega
  unfold E_X7_spoilsOf
  refine e_its (w := 3) h9 (by decide) rfl ?_
  simp only [nmI]
  refine e_its (w := 1) h9 (by decide) rfl ?_
  refine e_its (w := 0) h9 (by decide) rfl ?_
  rw [hb.2.2.2 0 d (by decide) hd, hb.2.2.2 1 d (by decide) hd, hb.2.2.2 3 d (by decide) hd]
  unfold spV at h
  by_cases c2 : T.2.2.2 0 d = 2
  · rw [if_pos c2] at h ⊢; exact h
  rw [if_neg c2] at h ⊢
  by_cases c3 : T.2.2.2 0 d = 3
  · rw [if_pos c3] at h ⊢; exact h
  rw [if_neg c3] at h ⊢
  by_cases c4 : T.2.2.2 0 d = 4
  · rw [if_pos c4] at h ⊢
    by_cases c5 : T.2.2.2 3 d / 5 ≤ 0
    · rw [if_pos c5] at h ⊢; exact h
    · rw [if_neg c5] at h ⊢; exact h
  rw [if_neg c4] at h ⊢
  by_cases c5 : T.2.2.2 0 d = 5
  · rw [if_pos c5] at h ⊢
    by_cases c6 : T.2.2.2 1 d ≤ 4
    · rw [if_pos c6] at h ⊢; exact h
    · rw [if_neg c6] at h ⊢; exact h
  rw [if_neg c5] at h ⊢
  by_cases c6 : T.2.2.2 0 d = 6
  · rw [if_pos c6] at h ⊢; exact h
  rw [if_neg c6] at h ⊢
  exact h
/-- a dish is one meal older -/
def agF (f : Nat → Nat → Int32) (w d : Nat) : Int32 := if f 2 d ≤ 0 then f w d else if w = 3 then hld 999 (f 3 d + 1) else if w = 2 then hld 99 (f 2 d - spV (f 0 d) (f 1 d) (hld 999 (f 3 d + 1))) else f w d
def acM (L : List Int32 × List Int32) (T : TB) (j : Nat) : Bool := !decide (T.2.2.2 2 j ≤ 0) && kpB L.2 T (sayN (T.2.2.2 2) (clmD L.1 T) T.1) j
def mealT (L : List Int32 × List Int32) (T : TB) (h : Int32) : Int32 × TB := ((eatN T.1 (clmD L.1 T) T.1 (T.2.2.2 2) (acM L T) h).2, (T.1, T.2.1 + 1, hld 99999 (T.2.2.1 + (eatN T.1 (clmD L.1 T) T.1 (T.2.2.2 2) (acM L T) h).2), agF (tS T (eatN T.1 (clmD L.1 T) T.1 (T.2.2.2 2) (acM L T) h).1).2.2.2))
theorem hld_min {m v : Int32} (h0 : 0 ≤ v.toInt) : (if v < m then v else m) = hld m v := by
  unfold hld
  simp only [Int32.lt_iff_toInt_lt, Int32.le_iff_toInt_le, Int32.toInt_zero]
  rw [if_pos h0]
  by_cases c : v.toInt < m.toInt
  · rw [if_pos c, if_pos (by omega)]
  · rw [if_neg c]
    by_cases c2 : v.toInt ≤ m.toInt
    · rw [if_pos c2]; exact Int32.toInt_inj.mp (by omega)
    · rw [if_neg c2]
theorem hld_max {m v : Int32} (h0 : v.toInt ≤ m.toInt) : (if (0 : Int32) < v then v else 0) = hld m v := by
  unfold hld
  simp only [Int32.lt_iff_toInt_lt, Int32.le_iff_toInt_le, Int32.toInt_zero]
  by_cases c : 0 < v.toInt
  · rw [if_pos c, if_pos (by omega), if_pos h0]
  · rw [if_neg c]
    by_cases c2 : 0 ≤ v.toInt
    · rw [if_pos c2, if_pos h0]; exact Int32.toInt_inj.mp (by rw [Int32.toInt_zero]; omega)
    · rw [if_neg c2]
theorem add_sm {x y : Int32} (h0 : 0 ≤ x.toInt) (h1 : x.toInt ≤ 1000000) (g0 : 0 ≤ y.toInt) (g1 : y.toInt ≤ 1000000) : (x + y).toInt = x.toInt + y.toInt := Jvm.Kit.i32_add (by omega) (by omega)
theorem sub_sm {x y : Int32} (h0 : 0 ≤ x.toInt) (h1 : x.toInt ≤ 1000000) (g0 : 0 ≤ y.toInt) (g1 : y.toInt ≤ 1000000) : (x - y).toInt = x.toInt - y.toInt := Jvm.Kit.i32_sub (by omega) (by omega)
/-- the first i dishes are older already -/
def mixF (f : Nat → Nat → Int32) (i : Nat) (w d : Nat) : Int32 := if d < i then agF f w d else f w d
theorem dine12 {t : Nat} {N : Nat} {day hg rest : Int32} {f : Nat → Nat → Int32} {S : St} {Q : Int32 → St → Prop} (hI : InvT (N, day, hg, f)) (hr0 : 0 ≤ rest.toInt) (hr1 : rest.toInt ≤ 99) (hQ : ∀ S2, FrT t S S2 → tbC S2 t (N, day + 1, hld 99999 (hg + rest), agF f) → Q rest S2) : ∀ (n i : Nat) (S1 : St), i + n = N → FrT t S S1 → tbC S1 t (N, day, hg, mixF f i) → L_X4_dine_12 t Q (n + 1) rest (nI i) S1 := by
  obtain ⟨h9, hhg, hI⟩ := hI
  dsimp only at h9 hhg hI
  intro n
  induction n with
  | zero =>
    intro i S1 hi hF hb
    have e : i = N := by omega
    subst e
    unfold L_X4_dine_12
    rw [show S1.1 t 2 = nI i from hb.1, if_pos (nI_le (Nat.le_refl _) (by omega))]
    simp only [nmS]
    rw [show S1.1 t 4 = hg from hb.2.2.1, sI_ne (show ¬ (t = t ∧ 3 = 4) by omega), show S1.1 t 3 = day from hb.2.1]
    rw [hld_min (by rw [add_sm hhg.1 (by omega) hr0 (by omega)]; omega)]
    refine hQ _ ((hF.tr (FrT.int (Or.inr rfl))).tr (FrT.int (Or.inl rfl))) ⟨?_, ?_, ?_, fun w d hw hd => ?_⟩
    · rw [sI_ne (by omega), sI_ne (by omega)]; exact hb.1
    · rw [sI_same]
    · rw [sI_ne (by omega), sI_same]
    · rw [sI_row, sI_row, hb.2.2.2 w d hw hd]
      show mixF f i w d = agF f w d
      unfold mixF
      rw [if_pos hd]
  | succ n ih =>
    intro i S1 hi hF hb
    have hi1 : i < N := by omega
    have hv : vp_in (nI i) 9 := vp_in_nI (by omega) (by decide)
    unfold L_X4_dine_12
    have rr : ∀ w, w < 5 → S1.2 t (5 + w) i = f w i := fun w hw => by
      rw [hb.2.2.2 w i hw hi1]
      show mixF f i w i = f w i
      unfold mixF
      rw [if_neg (Nat.lt_irrefl i)]
    have r2 : S1.2 t 7 i = f 2 i := rr 2 (by decide)
    have r3 : S1.2 t 8 i = f 3 i := rr 3 (by decide)
    rw [show S1.1 t 2 = nI N from hb.1, if_neg (nI_ge hi1 (by omega)), nI_clamp (by omega), r2, r3]
    refine ⟨hv, ?_⟩
    simp only [nmI, nmS]
    rw [nI_1]
    by_cases hz : f 2 i ≤ 0
    · rw [if_pos hz]
      refine ih (i + 1) S1 (by omega) hF (tbC_ext hb rfl rfl rfl (fun w d hw hd => ?_))
      show mixF f (i + 1) w d = mixF f i w d
      unfold mixF
      by_cases e : d = i
      · subst e
        rw [if_pos (Nat.lt_succ_self d), if_neg (Nat.lt_irrefl d)]
        unfold agF
        rw [if_pos hz]
      · by_cases e2 : d < i
        · rw [if_pos e2, if_pos (by omega)]
        · rw [if_neg e2, if_neg (by omega)]
    · rw [if_neg hz]
      refine ⟨hv, hv, hv, ?_⟩
      obtain ⟨a0, a1⟩ := hI i hi1 3 (by decide)
      obtain ⟨s0, s1⟩ := hI i hi1 2 (by decide)
      obtain ⟨m0, m1⟩ := hI i hi1 1 (by decide)
      have a1 : (f 3 i).toInt ≤ 999 := a1
      have s1 : (f 2 i).toInt ≤ 99 := s1
      have m1 : (f 1 i).toInt ≤ 9 := m1
      have t1 : (1 : Int32).toInt = 1 := by decide
      have ea : (f 3 i + 1).toInt = (f 3 i).toInt + 1 := by rw [add_sm a0 (by omega) (by omega) (by omega), t1]
      rw [hld_min (m := 999) (by omega)]
      have hh := hld_rg 999 (f 3 i + 1) (by decide)
      rw [show (999 : Int32).toInt = 999 by decide] at hh
      have hb2 := tbC_set (w := 3) (d := i) (v := hld 999 (f 3 i + 1)) (k := 8) rfl hb
      have hF2 : FrT t S1 (stR S1 t 8 (upd (S1.2 t 8) i (hld 999 (f 3 i + 1)))) := FrT.row (Or.inr (Or.inl rfl))
      generalize hS2 : stR S1 t 8 (upd (S1.2 t 8) i (hld 999 (f 3 i + 1))) = S2 at hb2 hF2 ⊢
      have q : ∀ w, w < 5 → w ≠ 3 → (tF (N, day, hg, mixF f i) 3 i (hld 999 (f 3 i + 1))).2.2.2 w i = f w i := fun w hw hne => by
        show (if w = 3 ∧ i = i then _ else mixF f i w i) = _
        rw [if_neg (fun e => hne e.1)]
        unfold mixF
        rw [if_neg (Nat.lt_irrefl i)]
      have q3 : (tF (N, day, hg, mixF f i) 3 i (hld 999 (f 3 i + 1))).2.2.2 3 i = hld 999 (f 3 i + 1) := by
        show (if 3 = 3 ∧ i = i then _ else mixF f i 3 i) = _
        rw [if_pos ⟨rfl, rfl⟩]
      refine e_X4_spoilOf hb2 hi1 h9 (by rw [q3]; omega) (by rw [q3]; omega) ⟨hv, ?_⟩
      rw [q3, q 0 (by decide) (by decide), q 1 (by decide) (by decide), show S2.2 t 7 i = f 2 i from (hb2.2.2.2 2 i (by decide) hi1).trans (q 2 (by decide) (by decide))]
      have sp := spV_rg (k := f 0 i) (m := f 1 i) (a := hld 999 (f 3 i + 1)) hh.1 hh.2 m0 m1
      have es := sub_sm s0 (by omega) sp.1 (by omega)
      rw [hld_max (m := 99) (by rw [es, show (99 : Int32).toInt = 99 by decide]; omega)]
      have hb3 := tbC_set (w := 2) (d := i) (v := hld 99 (f 2 i - spV (f 0 i) (f 1 i) (hld 999 (f 3 i + 1)))) (k := 7) rfl hb2
      refine ih (i + 1) _ (by omega) ((hF.tr hF2).tr (FrT.row (Or.inl rfl))) (tbC_ext hb3 rfl rfl rfl (fun w d hw hd => ?_))
      show mixF f (i + 1) w d = if w = 2 ∧ d = i then _ else if w = 3 ∧ d = i then _ else mixF f i w d
      unfold mixF
      by_cases e : d = i
      · subst e
        rw [if_pos (Nat.lt_succ_self d), if_neg (Nat.lt_irrefl d)]
        unfold agF
        rw [if_neg hz]
        by_cases w2 : w = 2
        · subst w2
          rw [if_neg (by decide), if_pos rfl, if_pos ⟨rfl, rfl⟩]
        · by_cases w3 : w = 3
          · subst w3
            rw [if_pos rfl, if_neg (by omega), if_pos ⟨rfl, rfl⟩]
          · rw [if_neg w3, if_neg w2, if_neg (fun e => w2 e.1), if_neg (fun e => w3 e.1)]
      · rw [if_neg (show ¬ (w = 2 ∧ d = i) from fun q => e q.2), if_neg (show ¬ (w = 3 ∧ d = i) from fun q => e q.2)]
        by_cases e2 : d < i
        · rw [if_pos e2, if_pos (show d < i + 1 by omega)]
        · rw [if_neg e2, if_neg (show ¬ d < i + 1 by omega)]
theorem aMeal61 {N : Nat} {day hg rest : Int32} {f : Nat → Nat → Int32} {S : St} {Q : Int32 → St → Prop} (hI : InvT (N, day, hg, f)) (hQ : ∀ S2, FrM S S2 → tbM S2 (N, day + 1, hld 99999 (hg + rest), agF f) → Q rest S2) : ∀ (n i : Nat) (S1 : St), i + n = N → FrM S S1 → tbM S1 (N, day, hg, mixF f i) → L_X7_aMeal_61 Q (n + 1) rest (nI i) S1 := by
  obtain ⟨h9, hhg, hI⟩ := hI
  dsimp only at h9 hhg hI
  have v5 : vp_in (5 : Int32) 387 := vp_in_nI (n := 5) (by decide) (by decide)
  have v1 : vp_in (1 : Int32) 387 := vp_in_nI (n := 1) (by decide) (by decide)
  have v0 : vp_in (0 : Int32) 387 := vp_in_nI (n := 0) (by decide) (by decide)
  intro n
  induction n with
  | zero =>
    intro i S1 hi hF hb
    have e : i = N := by omega
    subst e
    unfold L_X7_aMeal_61
    rw [show (5 : Int32).toNatClampNeg = 5 by decide, show S1.2 17 0 5 = nI i from hb.1, if_pos (nI_le (Nat.le_refl _) (by omega)), show (1 : Int32).toNatClampNeg = 1 by decide, show S1.2 17 0 1 = hg from hb.2.2.1, show (0 : Int32).toNatClampNeg = 0 by decide]
    refine ⟨v5, v1, e_held ⟨v1, ?_⟩⟩
    simp only [nmS]
    refine ⟨v0, v0, ?_⟩
    simp only [st_same, st_st]
    have e0 : upd (S1.2 17 0) 1 (hld 99999 (hg + rest)) 0 = day := by rw [pk_un (by decide)]; exact hb.2.1
    rw [e0]
    have F1 : FrM S1 (stR S1 17 0 (upd (S1.2 17 0) 1 (hld 99999 (hg + rest)))) := FrM.set (by omega)
    have F2 := F1.tr (FrM.set (S := stR S1 17 0 (upd (S1.2 17 0) 1 (hld 99999 (hg + rest)))) (i := 0) (v := day + 1) (by omega))
    rw [st_same, st_st] at F2
    refine hQ _ (hF.tr F2) ⟨?_, ?_, ?_, fun w d hw hd => ?_⟩
    · rw [st_same, pk_un (by decide), pk_un (by decide)]; exact hb.1
    · rw [st_same, pk_us]
    · rw [st_same, pk_un (by decide), pk_us]
    · rw [st_same, pk_un (by omega), pk_un (by omega), hb.2.2.2 w d hw hd]
      show mixF f i w d = agF f w d
      unfold mixF
      rw [if_pos hd]
  | succ n ih =>
    intro i S1 hi hF hb
    have hi1 : i < N := by omega
    have hi9 : i < 9 := by omega
    unfold L_X7_aMeal_61
    have rr : ∀ w, w < 5 → S1.2 17 0 (8 + 5 * i + w) = f w i := fun w hw => by
      rw [hb.2.2.2 w i hw hi1]
      show mixF f i w i = f w i
      unfold mixF
      rw [if_neg (Nat.lt_irrefl i)]
    rw [show (5 : Int32).toNatClampNeg = 5 by decide, show S1.2 17 0 5 = nI N from hb.1, if_neg (nI_ge hi1 (by omega))]
    refine ⟨v5, e_its (w := 2) hi9 (by decide) rfl ?_⟩
    rw [rr 2 (by decide)]
    simp only [nmI]
    rw [nI_1]
    by_cases hz : f 2 i ≤ 0
    · rw [if_pos hz]
      refine ih (i + 1) S1 (by omega) hF (tbM_ext hb rfl rfl rfl (fun w d hw hd => ?_))
      show mixF f (i + 1) w d = mixF f i w d
      unfold mixF
      by_cases e : d = i
      · subst e
        rw [if_pos (Nat.lt_succ_self d), if_neg (Nat.lt_irrefl d)]
        unfold agF
        rw [if_pos hz]
      · by_cases e2 : d < i
        · rw [if_pos e2, if_pos (by omega)]
        · rw [if_neg e2, if_neg (by omega)]
    · rw [if_neg hz]
      refine e_its (w := 3) hi9 (by decide) rfl ?_
      rw [rr 3 (by decide)]
      refine e_held (e_lays1 (w := 3) hi9 (by decide) rfl ?_)
      have hb2 := tbM_set (w := 3) (d := i) (v := hld 999 (f 3 i + 1)) (by decide) hi9 h9 hb
      have hF2 : FrM S1 (stR S1 17 0 (upd (S1.2 17 0) (8 + 5 * i + 3) (hld 999 (f 3 i + 1)))) := FrM.set (by omega)
      generalize hS2 : stR S1 17 0 (upd (S1.2 17 0) (8 + 5 * i + 3) (hld 999 (f 3 i + 1))) = S2 at hb2 hF2 ⊢
      have q : ∀ w, w < 5 → w ≠ 3 → (tF (N, day, hg, mixF f i) 3 i (hld 999 (f 3 i + 1))).2.2.2 w i = f w i := fun w hw hne => by
        show (if w = 3 ∧ i = i then _ else mixF f i w i) = _
        rw [if_neg (fun e => hne e.1)]
        unfold mixF
        rw [if_neg (Nat.lt_irrefl i)]
      have q3 : (tF (N, day, hg, mixF f i) 3 i (hld 999 (f 3 i + 1))).2.2.2 3 i = hld 999 (f 3 i + 1) := by
        show (if 3 = 3 ∧ i = i then _ else mixF f i 3 i) = _
        rw [if_pos ⟨rfl, rfl⟩]
      refine e_its (w := 2) hi9 (by decide) rfl ?_
      rw [hb2.2.2.2 2 i (by decide) hi1, q 2 (by decide) (by decide)]
      refine e_X7_spoilsOf hb2 hi1 h9 ?_
      rw [q3, q 0 (by decide) (by decide), q 1 (by decide) (by decide)]
      refine e_held (e_lays1 (w := 2) hi9 (by decide) rfl ?_)
      have hb3 := tbM_set (w := 2) (d := i) (v := hld 99 (f 2 i - spV (f 0 i) (f 1 i) (hld 999 (f 3 i + 1)))) (by decide) hi9 h9 hb2
      refine ih (i + 1) _ (by omega) ((hF.tr hF2).tr (FrM.set (by omega))) (tbM_ext hb3 rfl rfl rfl (fun w d hw hd => ?_))
      show mixF f (i + 1) w d = if w = 2 ∧ d = i then _ else if w = 3 ∧ d = i then _ else mixF f i w d
      unfold mixF
      by_cases e : d = i
      · subst e
        rw [if_pos (Nat.lt_succ_self d), if_neg (Nat.lt_irrefl d)]
        unfold agF
        rw [if_neg hz]
        by_cases w2 : w = 2
        · subst w2
          rw [if_neg (by decide), if_pos rfl, if_pos ⟨rfl, rfl⟩]
        · by_cases w3 : w = 3
          · subst w3
            rw [if_pos rfl, if_neg (by omega), if_pos ⟨rfl, rfl⟩]
          · rw [if_neg w3, if_neg w2, if_neg (fun e => w2 e.1), if_neg (fun e => w3 e.1)]
      · rw [if_neg (show ¬ (w = 2 ∧ d = i) from fun q => e q.2), if_neg (show ¬ (w = 3 ∧ d = i) from fun q => e q.2)]
        by_cases e2 : d < i
        · rw [if_pos e2, if_pos (show d < i + 1 by omega)]
        · rw [if_neg e2, if_neg (show ¬ d < i + 1 by omega)]
