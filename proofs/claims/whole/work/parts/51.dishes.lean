/-! PAIRS OF CALLS: dishes -/
/-- but for a table's own cells, and the piles -/
def FrO (t : Nat) (S S1 : St) : Prop := (∀ o k, o ≠ t → S1.1 o k = S.1 o k) ∧ ∀ o k, o ≠ t → ¬ (k = 3 ∧ (o = 6 ∨ o = 7)) → S1.2 o k = S.2 o k
theorem FrO.rf {t : Nat} {S : St} : FrO t S S := ⟨fun _ _ _ => rfl, fun _ _ _ _ => rfl⟩
theorem FrO.tr {t : Nat} {S S1 S2 : St} (h : FrO t S S1) (g : FrO t S1 S2) : FrO t S S2 := ⟨fun o k q => (g.1 o k q).trans (h.1 o k q), fun o k q q2 => (g.2 o k q q2).trans (h.2 o k q q2)⟩
theorem FrO.row {t k : Nat} {S : St} {f : Nat → Int32} : FrO t S (stR S t k f) := ⟨fun _ _ _ => rfl, fun _ _ q _ => st_ne (fun e => q e.1)⟩
theorem FrO.int {t k : Nat} {S : St} {v : Int32} : FrO t S (stI S t k v) := ⟨fun _ _ q => sI_ne (fun e => q e.1), fun _ _ _ _ => rfl⟩
theorem FrT.o {t : Nat} {S S1 : St} (h : FrT t S S1) : FrO t S S1 := ⟨fun o k q => h.1 o k (fun e => q e.1), fun o k q q2 => h.2 o k q2 (fun e => q e.1)⟩
theorem hsC_O {S S1 : St} {H : HS} {T1 : TB} (b : hsC S 1 H) (hF : FrO 3 S S1) (hT : tbC S1 3 T1) : hsC S1 1 (T1, H.2) := by
  obtain ⟨-, b2, b3, b4, b5, b6⟩ := b
  refine ⟨hT, ?_, ?_, ?_, ?_, ?_⟩
  · unfold lwC at *; rw [hF.1 _ _ (by omega), hF.2 _ _ (by omega) (by omega)]; exact b2
  · unfold lwC at *; rw [hF.1 _ _ (by omega), hF.2 _ _ (by omega) (by omega)]; exact b3
  · rw [hF.1 _ _ (by omega)]; exact b4
  · rw [hF.1 _ _ (by omega), hF.2 _ _ (by omega) (by omega)]; exact b5
  · rw [hF.1 _ _ (by omega), hF.2 _ _ (by omega) (by omega)]; exact b6
theorem Rel.tabO {c : Nat} {SC SM SC1 SM1 : St} {H : HS} {T1 : TB} (R : Rel c SC SM) (h1 : hsC SC 1 H) (h2 : hsM SM H) (h3 : InvH H) (fC : FrO 3 SC SC1) (fM : FrM SM SM1) (tC : tbC SC1 3 T1) (tM : tbM SM1 T1) (iT : InvT T1) (iD : 0 ≤ T1.2.1.toInt ∧ T1.2.1.toInt ≤ 9999) : Rel (c + 1) SC1 SM1 :=
  R.work (fun o ho => ⟨fun k => fC.1 o k (by omega), fun k => fC.2 o k (by omega) (by omega)⟩) (by unfold rcon; rw [fC.1 _ _ (by omega), fC.1 _ _ (by omega), fC.1 _ _ (by omega), fC.1 _ _ (by omega)]; exact R.2.1) (fun k _ => by rw [fM.1]) (fun k hk => fM.2.1 17 k (by omega)) ⟨(T1, H.2), hsC_O h1 fC tC, hsM_T h2 h3 fM tM, iT, h3.2.1, iD, h3.2.2.2⟩
theorem InvT_F {T : TB} {w d : Nat} {v : Int32} (h : InvT T) (h0 : 0 ≤ v.toInt) (h1 : v.toInt ≤ mx w) : InvT (tF T w d v) := by
  refine ⟨h.1, h.2.1, fun d' hd w' hw => ?_⟩
  show 0 ≤ (if w' = w ∧ d' = d then v else T.2.2.2 w' d' : Int32).toInt ∧ (if w' = w ∧ d' = d then v else T.2.2.2 w' d' : Int32).toInt ≤ mx w'
  by_cases e : w' = w ∧ d' = d
  · rw [if_pos e, e.1]; exact ⟨h0, h1⟩
  · rw [if_neg e]; exact h.2.2 d' hd w' hw
theorem km_q {x : Int32} (h : ¬ x < 0 ∧ ¬ 69 < x) : (0 ≤ (x / 10).toInt ∧ (x / 10).toInt ≤ 6) ∧ 0 ≤ (x - x / 10 * 10).toInt ∧ (x - x / 10 * 10).toInt ≤ 9 := by
  obtain ⟨j, hj, rfl⟩ := win_nI (b := 69) (m := 69) rfl (by decide) h
  rw [show (10 : Int32) = nI 10 from rfl, pk_rem (by omega) (by decide) (by decide), pk_div (by omega) (by decide) (by decide), nI_toInt (by omega), nI_toInt (by omega)]
  omega
theorem rg_of {x b : Int32} {m : Nat} (hb : b = nI m) (hm : m < 2 ^ 31) (h : ¬ x < 0 ∧ ¬ b < x) : 0 ≤ x.toInt ∧ x.toInt ≤ m := by
  obtain ⟨j, hj, rfl⟩ := win_nI hb hm h
  rw [nI_toInt (by omega)]
  omega
theorem e_change1 {S : St} {Q : Int32 → St → Prop} {i : Nat} {x v : Int32} (hi : i < 387) (hx : x = nI i) (q : Q (S.2 17 0 i) (stR S 17 0 (upd (S.2 17 0) i v))) : E_X7_change1 x v S Q := by
  subst hx
  unfold E_X7_change1
  rw [nI_clamp (by omega)]
  exact ⟨vp_in_nI hi (by decide), vp_in_nI hi (by decide), q⟩
theorem ix_d {d w : Nat} {x : Int32} (hx : x = nI w) : ((8 : Int32) + (5 * nI d)) + x = nI (8 + 5 * d + w) := by
  subst hx
  rw [show (5 : Int32) = nI 5 from rfl, pk_mul, show (8 : Int32) = nI 8 from rfl, nI_add, nI_add]
theorem f_become {c : Nat} {SC SM : St} (R : Rel c SC SM) (x1 x2 : Int32) : E_X6_become x1 x2 SC (fun r SC1 => E_X7_become x1 x2 SM (RQ c SC1 r)) := by
  obtain ⟨H, h1, h2, h3⟩ := R.1
  have h9 := h3.1.1
  unfold E_X6_become
  rcases pk_ix x1 (n := H.1.1) (by omega) with hx | hx | ⟨d, hd, rfl⟩
  · refine has_no h1.1.1 (Or.inl hx) ?_
    rw [if_pos rfl]
    refine e_wrong 1 (by decide) rfl ?_
    unfold E_X7_become
    refine dis_no h2.1.1 h9 (Or.inl hx) ?_
    rw [if_pos rfl]
    exact e_error 1 (by decide) rfl ⟨rfl, (R.err 1 (by decide)).up⟩
  · refine has_no h1.1.1 (Or.inr hx) ?_
    rw [if_pos rfl]
    refine e_wrong 1 (by decide) rfl ?_
    unfold E_X7_become
    refine dis_no h2.1.1 h9 (Or.inr hx) ?_
    rw [if_pos rfl]
    exact e_error 1 (by decide) rfl ⟨rfl, (R.err 1 (by decide)).up⟩
  · refine has_ok h1.1.1 h9 hd ?_
    rw [if_neg (by decide)]
    rcases win x2 0 69 with hk | hk
    · refine km_no hk ?_
      rw [if_pos rfl]
      refine e_wrong 1 (by decide) rfl ?_
      unfold E_X7_become
      refine dis_ok h2.1.1 h9 hd ?_
      rw [if_neg (by decide)]
      refine kn_no hk ?_
      rw [if_pos rfl]
      exact e_error 1 (by decide) rfl ⟨rfl, (R.err 1 (by decide)).up⟩
    · refine km_ok hk ?_
      rw [if_neg (by decide), nI_clamp (by omega)]
      have hv : vp_in (nI d) 9 := vp_in_nI (by omega) (by decide)
      refine ⟨hv, ?_⟩
      simp only [nmI, nmS]
      refine ⟨hv, hv, ?_⟩
      rw [show SC.2 3 5 d = H.1.2.2.2 0 d from h1.1.2.2.2 0 d (by decide) hd]
      unfold E_X7_become
      refine dis_ok h2.1.1 h9 hd ?_
      rw [if_neg (by decide)]
      refine kn_ok hk ?_
      rw [if_neg (by decide)]
      refine e_lays1 (w := 1) (by omega) (by decide) rfl (e_change1 (i := 8 + 5 * d + 0) (by omega) (ix_d rfl) ?_)
      have c1 := tbC_set (w := 0) (d := d) (v := x2 / 10) (k := 5) rfl h1.1
      have c2 := tbC_set (w := 1) (d := d) (v := x2 - x2 / 10 * 10) (k := 6) rfl c1
      have m1 := tbM_set (w := 1) (d := d) (v := x2 - x2 / 10 * 10) (by decide) (by omega) h9 h2.1
      have m2 := tbM_set (T := tF H.1 1 d (x2 - x2 / 10 * 10)) (w := 0) (d := d) (v := x2 / 10) (by decide) (by omega) h9 m1
      have kq := km_q hk
      refine ⟨?_, R.tabO h1 h2 h3 (FrO.row.tr FrO.row) ((FrM.set (by omega)).tr (FrM.set (by omega))) c2 (tbM_ext m2 rfl rfl rfl (fun w d' hw hd' => ?_)) (InvT_F (InvT_F h3.1 kq.1.1 kq.1.2) kq.2.1 kq.2.2) h3.2.2.1⟩
      · rw [st_same, pk_un (by omega)]
        exact (h2.1.2.2.2 0 d (by decide) hd).symm
      · show (if w = 1 ∧ d' = d then _ else if w = 0 ∧ d' = d then _ else H.1.2.2.2 w d') = (if w = 0 ∧ d' = d then _ else if w = 1 ∧ d' = d then _ else H.1.2.2.2 w d')
        by_cases e0 : w = 0 ∧ d' = d
        · rw [if_pos e0, if_neg (by omega), if_pos e0]
        · rw [if_neg e0, if_neg e0]
theorem f_serve {c : Nat} {SC SM : St} (R : Rel c SC SM) (x1 x2 : Int32) : E_X6_serve x1 x2 SC (fun r SC1 => E_X7_serve x1 x2 SM (RQ c SC1 r)) := by
  obtain ⟨H, h1, h2, h3⟩ := R.1
  have h9 := h3.1.1
  unfold E_X6_serve
  rcases pk_ix x1 (n := H.1.1) (by omega) with hx | hx | ⟨d, hd, rfl⟩
  · refine has_no h1.1.1 (Or.inl hx) ?_
    rw [if_pos rfl]
    refine e_wrong 1 (by decide) rfl ?_
    unfold E_X7_serve
    refine dis_no h2.1.1 h9 (Or.inl hx) ?_
    rw [if_pos rfl]
    exact e_error 1 (by decide) rfl ⟨rfl, (R.err 1 (by decide)).up⟩
  · refine has_no h1.1.1 (Or.inr hx) ?_
    rw [if_pos rfl]
    refine e_wrong 1 (by decide) rfl ?_
    unfold E_X7_serve
    refine dis_no h2.1.1 h9 (Or.inr hx) ?_
    rw [if_pos rfl]
    exact e_error 1 (by decide) rfl ⟨rfl, (R.err 1 (by decide)).up⟩
  · refine has_ok h1.1.1 h9 hd ?_
    rw [if_neg (by decide)]
    rcases win x2 0 99 with hk2 | hk2
    · refine w_no hk2 ?_
      rw [if_pos rfl]
      refine e_wrong 1 (by decide) rfl ?_
      unfold E_X7_serve
      refine dis_ok h2.1.1 h9 hd ?_
      rw [if_neg (by decide)]
      refine i_no hk2 ?_
      rw [if_pos rfl]
      exact e_error 1 (by decide) rfl ⟨rfl, (R.err 1 (by decide)).up⟩
    · refine w_ok hk2 ?_
      rw [if_neg (by decide), nI_clamp (by omega)]
      have hv : vp_in (nI d) 9 := vp_in_nI (by omega) (by decide)
      refine ⟨hv, ?_⟩
      simp only [nmI, nmS]
      refine ⟨hv, ?_⟩
      unfold E_X7_serve
      refine dis_ok h2.1.1 h9 hd ?_
      rw [if_neg (by decide)]
      refine i_ok hk2 ?_
      rw [if_neg (by decide)]
      refine e_change1 (i := 8 + 5 * d + 2) (by omega) (ix_d rfl) ⟨?_, ?_⟩
      · rw [show SC.2 3 7 d = H.1.2.2.2 2 d from h1.1.2.2.2 2 d (by decide) hd, h2.1.2.2.2 2 d (by decide) hd]
      · have rg := rg_of (m := 99) rfl (by decide) hk2
        exact R.tabO h1 h2 h3 FrO.row (FrM.set (by omega)) (tbC_set (w := 2) rfl h1.1) (tbM_set (w := 2) (by decide) (by omega) h9 h2.1) (InvT_F h3.1 rg.1 (by have := rg.2; simp [mx]; omega)) h3.2.2.1
theorem f_season {c : Nat} {SC SM : St} (R : Rel c SC SM) (x1 x2 : Int32) : E_X6_season x1 x2 SC (fun r SC1 => E_X7_season x1 x2 SM (RQ c SC1 r)) := by
  obtain ⟨H, h1, h2, h3⟩ := R.1
  have h9 := h3.1.1
  unfold E_X6_season
  rcases pk_ix x1 (n := H.1.1) (by omega) with hx | hx | ⟨d, hd, rfl⟩
  · refine has_no h1.1.1 (Or.inl hx) ?_
    rw [if_pos rfl]
    refine e_wrong 1 (by decide) rfl ?_
    unfold E_X7_season
    refine dis_no h2.1.1 h9 (Or.inl hx) ?_
    rw [if_pos rfl]
    exact e_error 1 (by decide) rfl ⟨rfl, (R.err 1 (by decide)).up⟩
  · refine has_no h1.1.1 (Or.inr hx) ?_
    rw [if_pos rfl]
    refine e_wrong 1 (by decide) rfl ?_
    unfold E_X7_season
    refine dis_no h2.1.1 h9 (Or.inr hx) ?_
    rw [if_pos rfl]
    exact e_error 1 (by decide) rfl ⟨rfl, (R.err 1 (by decide)).up⟩
  · refine has_ok h1.1.1 h9 hd ?_
    rw [if_neg (by decide)]
    rcases win x2 0 9 with hk2 | hk2
    · refine w_no hk2 ?_
      rw [if_pos rfl]
      refine e_wrong 1 (by decide) rfl ?_
      unfold E_X7_season
      refine dis_ok h2.1.1 h9 hd ?_
      rw [if_neg (by decide)]
      refine i_no hk2 ?_
      rw [if_pos rfl]
      exact e_error 1 (by decide) rfl ⟨rfl, (R.err 1 (by decide)).up⟩
    · refine w_ok hk2 ?_
      rw [if_neg (by decide), nI_clamp (by omega)]
      have hv : vp_in (nI d) 9 := vp_in_nI (by omega) (by decide)
      refine ⟨hv, ?_⟩
      simp only [nmI, nmS]
      refine ⟨hv, ?_⟩
      unfold E_X7_season
      refine dis_ok h2.1.1 h9 hd ?_
      rw [if_neg (by decide)]
      refine i_ok hk2 ?_
      rw [if_neg (by decide)]
      refine e_change1 (i := 8 + 5 * d + 4) (by omega) (ix_d rfl) ⟨?_, ?_⟩
      · rw [show SC.2 3 9 d = H.1.2.2.2 4 d from h1.1.2.2.2 4 d (by decide) hd, h2.1.2.2.2 4 d (by decide) hd]
      · have rg := rg_of (m := 9) rfl (by decide) hk2
        exact R.tabO h1 h2 h3 FrO.row (FrM.set (by omega)) (tbC_set (w := 4) rfl h1.1) (tbM_set (w := 4) (by decide) (by omega) h9 h2.1) (InvT_F h3.1 rg.1 (by have := rg.2; simp [mx]; omega)) h3.2.2.1
theorem f_rules {c : Nat} {SC SM : St} (R : Rel c SC SM) : E_X6_rules SC (fun r SC1 => E_X7_rules SM (RQ c SC1 r)) := by
  obtain ⟨H, h1, h2, h3⟩ := R.1
  unfold E_X6_rules
  refine e_X4_sayer (Or.inl rfl) h1.1 (lawsC_of h1 R.2.1) h3.2.1 h3.1.1 (fun SC1 hF _ => ?_)
  have fin : ∀ SM1, FrG SM SM1 → Rel c SC1 SM1 := fun SM1 hG => R.same0 (Or.inl rfl) hF hG
  cases hs : sayN (H.1.2.2.2 2) (clmD H.2.1.1 H.1) H.1.1 with
  | none =>
    rw [show enc none = -1 from rfl, if_neg (by decide)]
    refine e_wrong 2 (by decide) rfl ?_
    unfold E_X7_rules
    refine e_X7_findRuler h2.1 h2.2.1 h3.2.1 h3.1.1 (fun SM1 hG _ => ?_)
    rw [hs, show enc none = -1 from rfl, if_pos rfl]
    exact e_error 2 (by decide) rfl ⟨rfl, ((fin SM1 hG).err 2 (by decide)).up⟩
  | some b =>
    have hb := (sayN_lt hs).1
    have h9 := h3.1.1
    rw [show enc (some b) = nI b from rfl, if_pos (nI_pos' (by omega))]
    unfold E_X7_rules
    refine e_X7_findRuler h2.1 h2.2.1 h3.2.1 h3.1.1 (fun SM1 hG _ => ?_)
    rw [hs, show enc (some b) = nI b from rfl, if_neg (fun e => nI_pos (n := b) (by omega) (by rw [e]; decide))]
    exact ⟨rfl, (fin SM1 hG).up⟩
