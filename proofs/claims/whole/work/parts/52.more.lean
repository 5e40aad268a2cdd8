/-! PAIRS OF CALLS: more of dishes, meals, counts -/
def addT (T : TB) (k m s fl : Int32) : TB := (T.1 + 1, T.2.1, T.2.2.1, fun w d => if d = T.1 then (if w = 0 then k else if w = 1 then m else if w = 2 then s else if w = 3 then 0 else fl) else T.2.2.2 w d)
theorem addT_inv {T : TB} {k m s fl : Int32} (h : InvT T) (h9 : T.1 < 9) (hk : 0 ≤ k.toInt ∧ k.toInt ≤ 6) (hm : 0 ≤ m.toInt ∧ m.toInt ≤ 9) (hs : 0 ≤ s.toInt ∧ s.toInt ≤ 99) (hf : 0 ≤ fl.toInt ∧ fl.toInt ≤ 9) : InvT (addT T k m s fl) := by
  refine ⟨h9, h.2.1, fun d hd w hw => ?_⟩
  show 0 ≤ (if d = T.1 then _ else T.2.2.2 w d : Int32).toInt ∧ (if d = T.1 then _ else T.2.2.2 w d : Int32).toInt ≤ mx w
  by_cases e : d = T.1
  · rw [if_pos e]
    rcases (show w = 0 ∨ w = 1 ∨ w = 2 ∨ w = 3 ∨ w = 4 by omega) with rfl | rfl | rfl | rfl | rfl
    · exact hk
    · exact hm
    · exact hs
    · exact (show 0 ≤ (0 : Int32).toInt ∧ (0 : Int32).toInt ≤ mx 3 from ⟨by decide, by decide⟩)
    · exact hf
  · rw [if_neg e]
    have hd : d < T.1 + 1 := hd
    exact h.2.2 d (by omega) w hw
theorem e_bring {S : St} {Q : Int32 → St → Prop} {t : Nat} {T : TB} {x1 x2 x3 : Int32} (hb : tbC S t T) (h9 : T.1 < 9) (h : ∀ S1, FrO t S S1 → (S1.2 t 10 = S.2 t 10) → tbC S1 t (addT T (x1 / 10) (x1 - x1 / 10 * 10) x2 x3) → Q (nI T.1) S1) : E_X4_bring t x1 x2 x3 S Q := by
  have hv : vp_in (nI T.1) 9 := vp_in_nI (by omega) (by decide)
  unfold E_X4_bring
  rw [hb.1, if_pos (show nI T.1 < 9 from nI_lt (b := 9) h9 (by decide))]
  simp only [nmI, nmS]
  rw [nI_clamp (by omega)]
  refine ⟨hv, hv, hv, hv, hv, ?_⟩
  refine h _ (((((FrO.row.tr FrO.row).tr FrO.row).tr FrO.row).tr FrO.row).tr FrO.int) ?_ ⟨?_, ?_, ?_, fun w d hw hd => ?_⟩
  · rw [sI_row, st_ne (by omega), st_ne (by omega), st_ne (by omega), st_ne (by omega), st_ne (by omega)]
  · rw [sI_same]
    show S.1 t 2 + 1 = nI (T.1 + 1)
    rw [hb.1, nI_1]
  · rw [sI_ne (by omega)]; exact hb.2.1
  · rw [sI_ne (by omega)]; exact hb.2.2.1
  · rw [sI_row]
    have hd : d < T.1 + 1 := hd
    show _ = if d = T.1 then (if w = 0 then x1 / 10 else if w = 1 then x1 - x1 / 10 * 10 else if w = 2 then x2 else if w = 3 then 0 else x3) else T.2.2.2 w d
    rcases (show w = 0 ∨ w = 1 ∨ w = 2 ∨ w = 3 ∨ w = 4 by omega) with rfl | rfl | rfl | rfl | rfl
    · rw [st_ne (by omega), st_ne (by omega), st_ne (by omega), st_ne (by omega), st_same]
      by_cases e : d = T.1
      · rw [if_pos e, e, pk_us, if_pos rfl]
      · rw [if_neg e, pk_un e]; exact hb.2.2.2 0 d (by decide) (by omega)
    · rw [st_ne (by omega), st_ne (by omega), st_ne (by omega), st_same, st_ne (by omega)]
      by_cases e : d = T.1
      · rw [if_pos e, e, pk_us]; rfl
      · rw [if_neg e, pk_un e]; exact hb.2.2.2 1 d (by decide) (by omega)
    · rw [st_ne (by omega), st_ne (by omega), st_same, st_ne (by omega), st_ne (by omega)]
      by_cases e : d = T.1
      · rw [if_pos e, e, pk_us]; rfl
      · rw [if_neg e, pk_un e]; exact hb.2.2.2 2 d (by decide) (by omega)
    · rw [st_ne (by omega), st_same, st_ne (by omega), st_ne (by omega), st_ne (by omega)]
      by_cases e : d = T.1
      · rw [if_pos e, e, pk_us]; rfl
      · rw [if_neg e, pk_un e]; exact hb.2.2.2 3 d (by decide) (by omega)
    · rw [st_same, st_ne (by omega), st_ne (by omega), st_ne (by omega), st_ne (by omega)]
      by_cases e : d = T.1
      · rw [if_pos e, e, pk_us]; rfl
      · rw [if_neg e, pk_un e]; exact hb.2.2.2 4 d (by decide) (by omega)
theorem e_laysDish {S : St} {Q : St → Prop} {T : TB} {x1 x2 x3 : Int32} (hb : tbM S T) (h9 : T.1 < 9) (h : ∀ S1, FrM S S1 → tbM S1 (addT T (x1 / 10) (x1 - x1 / 10 * 10) x2 x3) → Q S1) : E_X7_laysDish x1 x2 x3 S Q := by
  have v5 : vp_in (5 : Int32) 387 := vp_in_nI (n := 5) (by decide) (by decide)
  unfold E_X7_laysDish
  rw [show (5 : Int32).toNatClampNeg = 5 by decide, hb.1]
  refine ⟨v5, ?_⟩
  simp only [nmI]
  refine e_lays1 (w := 0) h9 (by decide) rfl (e_lays1 (w := 1) h9 (by decide) rfl (e_lays1 (w := 2) h9 (by decide) rfl (e_lays1 (w := 3) h9 (by decide) rfl (e_lays1 (w := 4) h9 (by decide) rfl ⟨v5, v5, ?_⟩))))
  simp only [nmS]
  have F := ((((FrM.set (S := S) (i := 8 + 5 * T.1 + 0) (v := x1 / 10) (by omega)).tr (FrM.set (i := 8 + 5 * T.1 + 1) (v := x1 - x1 / 10 * 10) (by omega))).tr (FrM.set (i := 8 + 5 * T.1 + 2) (v := x2) (by omega))).tr (FrM.set (i := 8 + 5 * T.1 + 3) (v := 0) (by omega))).tr (FrM.set (i := 8 + 5 * T.1 + 4) (v := x3) (by omega))
  simp only [st_same, st_st] at F ⊢
  have e5 : ∀ (r : Nat → Int32) (a b c d e : Int32), upd (upd (upd (upd (upd r (8 + 5 * T.1 + 0) a) (8 + 5 * T.1 + 1) b) (8 + 5 * T.1 + 2) c) (8 + 5 * T.1 + 3) d) (8 + 5 * T.1 + 4) e 5 = r 5 := fun r a b c d e => by rw [pk_un (by omega), pk_un (by omega), pk_un (by omega), pk_un (by omega), pk_un (by omega)]
  rw [e5, hb.1, nI_1]
  have F2 := F.tr (FrM.set (i := 5) (v := nI (T.1 + 1)) (by omega))
  simp only [st_same, st_st] at F2
  refine h _ F2 ⟨?_, ?_, ?_, fun w d hw hd => ?_⟩
  · rw [st_same, pk_us]; rfl
  · rw [st_same, pk_un (by omega), pk_un (by omega), pk_un (by omega), pk_un (by omega), pk_un (by omega), pk_un (by omega)]; exact hb.2.1
  · rw [st_same, pk_un (by omega), pk_un (by omega), pk_un (by omega), pk_un (by omega), pk_un (by omega), pk_un (by omega)]; exact hb.2.2.1
  · have hd : d < T.1 + 1 := hd
    show _ = if d = T.1 then (if w = 0 then x1 / 10 else if w = 1 then x1 - x1 / 10 * 10 else if w = 2 then x2 else if w = 3 then 0 else x3) else T.2.2.2 w d
    rw [st_same, pk_un (by omega)]
    by_cases e : d = T.1
    · subst e
      rw [if_pos rfl]
      rcases (show w = 0 ∨ w = 1 ∨ w = 2 ∨ w = 3 ∨ w = 4 by omega) with rfl | rfl | rfl | rfl | rfl
      · rw [pk_un (by omega), pk_un (by omega), pk_un (by omega), pk_un (by omega), pk_us]; rfl
      · rw [pk_un (by omega), pk_un (by omega), pk_un (by omega), pk_us]; rfl
      · rw [pk_un (by omega), pk_un (by omega), pk_us]; rfl
      · rw [pk_un (by omega), pk_us]; rfl
      · rw [pk_us]; rfl
    · rw [if_neg e, pk_un (by omega), pk_un (by omega), pk_un (by omega), pk_un (by omega), pk_un (by omega)]
      exact hb.2.2.2 w d hw (by omega)
theorem f_dish {c : Nat} {SC SM : St} (R : Rel c SC SM) (x1 x2 x3 : Int32) : E_X6_dish x1 x2 x3 SC (fun r SC1 => E_X7_dish x1 x2 x3 SM (RQ c SC1 r)) := by
  obtain ⟨H, h1, h2, h3⟩ := R.1
  have h9 := h3.1.1
  unfold E_X6_dish
  rcases win x1 0 69 with hk | hk
  · refine km_no hk ?_
    rw [if_pos rfl]
    refine e_wrong 1 (by decide) rfl ?_
    unfold E_X7_dish
    refine kn_no hk ?_
    rw [if_pos rfl]
    exact e_error 1 (by decide) rfl ⟨rfl, (R.err 1 (by decide)).up⟩
  refine km_ok hk ?_
  rw [if_neg (by decide)]
  rcases win x2 0 99 with hs | hs
  · refine w_no hs ?_
    rw [if_pos rfl]
    refine e_wrong 1 (by decide) rfl ?_
    unfold E_X7_dish
    refine kn_ok hk ?_
    rw [if_neg (by decide)]
    refine i_no hs ?_
    rw [if_pos rfl]
    exact e_error 1 (by decide) rfl ⟨rfl, (R.err 1 (by decide)).up⟩
  refine w_ok hs ?_
  rw [if_neg (by decide)]
  rcases win x3 0 9 with hf | hf
  · refine w_no hf ?_
    rw [if_pos rfl]
    refine e_wrong 1 (by decide) rfl ?_
    unfold E_X7_dish
    refine kn_ok hk ?_
    rw [if_neg (by decide)]
    refine i_ok hs ?_
    rw [if_neg (by decide)]
    refine i_no hf ?_
    rw [if_pos rfl]
    exact e_error 1 (by decide) rfl ⟨rfl, (R.err 1 (by decide)).up⟩
  refine w_ok hf ?_
  rw [if_neg (by decide), show SC.1 3 2 = nI H.1.1 from h1.1.1]
  have v5 : vp_in (5 : Int32) 387 := vp_in_nI (n := 5) (by decide) (by decide)
  by_cases hN : H.1.1 < 9
  · rw [if_pos (show nI H.1.1 < 9 from nI_lt (b := 9) hN (by decide))]
    refine e_bring h1.1 hN (fun SC1 hO _ hT => ?_)
    unfold E_X7_dish
    refine kn_ok hk ?_
    rw [if_neg (by decide)]
    refine i_ok hs ?_
    rw [if_neg (by decide)]
    refine i_ok hf ?_
    rw [if_neg (by decide), show (5 : Int32).toNatClampNeg = 5 by decide, show SM.2 17 0 5 = nI H.1.1 from h2.1.1, if_neg (show ¬ nI H.1.1 = 9 from fun e => by have := (nI_eq (a := H.1.1) (b := 9) (by omega) (by decide)).mp e; omega)]
    refine ⟨v5, e_laysDish h2.1 hN (fun SM1 hM hT2 => ⟨v5, ?_⟩)⟩
    rw [hT2.1]
    refine ⟨(pk_sub (a := H.1.1 + 1) (b := 1) (by omega)).symm, R.tabO h1 h2 h3 hO hM hT hT2 (addT_inv h3.1 hN (km_q hk).1 (km_q hk).2 (rg_of (m := 99) rfl (by decide) hs) (rg_of (m := 9) rfl (by decide) hf)) h3.2.2.1⟩
  · rw [if_neg (show ¬ nI H.1.1 < 9 from nI_nlt (a := H.1.1) (b := 9) (by omega) (by omega))]
    refine e_wrong 4 (by decide) rfl ?_
    unfold E_X7_dish
    refine kn_ok hk ?_
    rw [if_neg (by decide)]
    refine i_ok hs ?_
    rw [if_neg (by decide)]
    refine i_ok hf ?_
    rw [if_neg (by decide), show (5 : Int32).toNatClampNeg = 5 by decide, show SM.2 17 0 5 = nI H.1.1 from h2.1.1, if_pos (show nI H.1.1 = 9 by rw [show H.1.1 = 9 by omega]; rfl)]
    exact ⟨v5, e_error 4 (by decide) rfl ⟨rfl, (R.err 4 (by decide)).up⟩⟩
