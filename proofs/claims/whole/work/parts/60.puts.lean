/-! PAIRS OF CALLS: put, tell, check, judge, serves -/
theorem miss1 {o : Nat} {S : St} {Q : Int32 → St → Prop} (e : S.1 o 0 = 0) (h : Q 1 S) : E_X3_isMissing o S Q := by unfold E_X3_isMissing; rw [if_pos e]; exact h
theorem miss0 {o : Nat} {S : St} {Q : Int32 → St → Prop} (e : ¬ S.1 o 0 = 0) (h : Q 0 S) : E_X3_isMissing o S Q := by unfold E_X3_isMissing; rw [if_neg e]; exact h
theorem f_put {c : Nat} {SC SM : St} (R : Rel c SC SM) (x1 x2 x3 : Int32) : E_X6_put x1 x2 x3 SC (fun r SC1 => E_X7_put x1 x2 x3 SM (RQ c SC1 r)) := by
  unfold E_X6_put
  rcases win x1 0 3 with hw | hw
  · refine sh_no hw ?_
    rw [if_pos rfl]
    refine e_wrong 1 (by decide) rfl ?_
    unfold E_X7_put
    refine ms_no hw ?_
    rw [if_pos rfl]
    exact e_error 1 (by decide) rfl ⟨rfl, (R.err 1 (by decide)).up⟩
  refine sh_ok hw ?_
  rw [if_neg (by decide)]
  obtain ⟨j, hj, rfl⟩ := win_nI (b := 3) (m := 3) rfl (by decide) hw
  have hv : vp_in (nI j) 4 := vp_in_nI (by omega) (by decide)
  rw [nI_clamp (by omega)]
  refine ⟨hv, ?_⟩
  obtain ⟨b, n, g1, g2, g3, g4, g5, g6, g7⟩ := R.2.2.2.2.2 j (by omega)
  have head : ∀ (r : Int32) (SC1 : St), (if b = 0 then E_X7_error 2 SM (fun v10 S9 => RQ c SC1 r v10 S9) else E_X7_in x2 0 (nI n - 1) SM (fun v4 S3 => if v4 = 0 then (E_X7_error 1 S3 (fun v8 S7 => RQ c SC1 r v8 S7)) else (vp_in (nI j) 4 ∧ (nmI (32 - (S3.2 17 18 j)) (fun v5 => vp_in ((24 * nI j) + x2) 96 ∧ (nmS (stR S3 17 20 (upd (S3.2 17 20) ((24 * nI j) + x2).toNatClampNeg ((x3 <<< (v5 &&& 31)) >>> (v5 &&& 31)))) (fun S6 => RQ c SC1 r 1 S6))))))) → E_X7_put (nI j) x2 x3 SM (RQ c SC1 r) := by
    intro r SC1 h
    unfold E_X7_put
    refine ms_ok hw ?_
    rw [if_neg (by decide), nI_clamp (by omega), g4, g6]
    refine ⟨hv, ?_⟩
    by_cases z : b = 0
    · rw [if_pos z] at h ⊢; exact h
    · rw [if_neg z] at h ⊢; exact ⟨hv, h⟩
  by_cases z : b = 0
  · refine miss1 (by rw [g3, z]) ?_
    rw [if_neg (by decide)]
    refine e_wrong 2 (by decide) rfl (head _ _ ?_)
    rw [if_pos z]
    exact e_error 2 (by decide) rfl ⟨rfl, (R.err 2 (by decide)).up⟩
  refine miss0 (by rw [g3]; exact z) ?_
  rw [if_pos rfl, g5]
  rcases win x2 0 (nI n - 1) with hk | hk
  · refine w_no hk ?_
    rw [if_pos rfl]
    refine e_wrong 1 (by decide) rfl (head _ _ ?_)
    rw [if_neg z]
    refine i_no hk ?_
    rw [if_pos rfl]
    exact e_error 1 (by decide) rfl ⟨rfl, (R.err 1 (by decide)).up⟩
  refine w_ok hk ?_
  rcases pk_ix x2 (n := n) (by omega) with hx | hx | ⟨d, hd, rfl⟩
  · exact absurd hx hk.1
  · exact absurd ((nI_m1 (by omega)).mpr hx) hk.2
  rw [if_neg (by decide)]
  have v24 : vp_in (nI d) 24 := vp_in_nI (by omega) (by decide)
  have main : ∀ v : Int32, v = (x3 <<< ((32 - b) &&& 31)) >>> ((32 - b) &&& 31) → E_X7_put (nI j) (nI d) x3 SM (RQ c (stR SC (13 + j) 2 (upd (SC.2 (13 + j) 2) d v)) 1) := by
    intro v ev
    refine head _ _ ?_
    rw [if_neg z]
    refine i_ok hk ?_
    rw [if_neg (by decide), g4, show ((24 : Int32) * nI j) + nI d = nI (24 * j + d) by rw [show (24 : Int32) = nI 24 from rfl, pk_mul, nI_add], nI_clamp (by omega)]
    refine ⟨hv, ?_⟩
    simp only [nmI, nmS]
    refine ⟨vp_in_nI (by omega) (by decide), rfl, Rel.up (Rel.shv R (fun o ho => ⟨fun _ => rfl, fun k => st_ne (by omega)⟩) ?_ (fun k hk => st_ne (by omega)) (fun a ha => ?_))⟩
    · rfl
    · obtain ⟨b', n', k1, k2, k3, k4, k5, k6, k7⟩ := R.2.2.2.2.2 a ha
      refine ⟨b', n', k1, k2, k3, by rw [st_ne (by omega)]; exact k4, k5, by rw [st_ne (by omega)]; exact k6, fun i hi => ?_⟩
      rw [st_same, ← ev]
      by_cases q : a = j
      · subst q
        rw [st_same]
        by_cases q2 : i = d
        · rw [q2, pk_us, pk_us]
        · rw [pk_un q2, pk_un (by omega)]; exact k7 i hi
      · rw [st_ne (by omega), pk_un (by omega)]
        exact k7 i hi
  unfold E_X3_write
  rw [g3, nI_clamp (by omega)]
  by_cases b8 : b = 8
  · rw [if_pos b8]
    simp only [nmS]
    refine ⟨v24, main _ ?_⟩
    rw [b8, show (32 : Int32) - 8 = 24 by decide]
    exact (sx24 x3).symm
  rw [if_neg b8]
  by_cases b16 : b = 16
  · rw [if_pos b16]
    simp only [nmS]
    refine ⟨v24, main _ ?_⟩
    rw [b16, show (32 : Int32) - 16 = 16 by decide]
    exact (sx16 x3).symm
  rw [if_neg b16]
  simp only [nmS]
  refine ⟨v24, main _ ?_⟩
  rw [((g1.resolve_left z).resolve_left b8).resolve_left b16, show (32 : Int32) - 32 = 0 by decide]
  exact (sx0 x3).symm
theorem f_tell {c : Nat} {SC SM : St} (R : Rel c SC SM) (x1 : Int32) : E_X6_tell x1 SC (fun r SC1 => E_X7_tell x1 SM (RQ c SC1 r)) := by
  obtain ⟨H, h1, h2, h3⟩ := R.1
  have w24 := h3.2.2.2.2
  obtain ⟨W, hW⟩ : ∃ W, H.2.2.2.2.length = W := ⟨_, rfl⟩
  rw [hW] at w24
  have eC : SC.1 1 6 = nI W := by rw [← hW]; exact h1.2.2.2.2.2.1
  have eM : SM.2 17 0 4 = nI W := by rw [← hW]; exact h2.2.2.2.2.1
  have v4 : vp_in (4 : Int32) 387 := vp_in_nI (n := 4) (by decide) (by decide)
  have c4 : (4 : Int32).toNatClampNeg = 4 := by decide
  unfold E_X6_tell
  rw [eC]
  by_cases big : W < 24
  · rw [if_pos (show nI W < 24 from nI_lt (b := 24) big (by decide)), nI_clamp (by omega)]
    refine ⟨vp_in_nI big (by decide), ?_⟩
    simp only [nmS]
    rw [sI_same, show (stR SC 1 5 (upd (SC.2 1 5) W x1)).1 1 6 = nI W from eC, nI_1]
    unfold E_X7_tell
    rw [c4, eM, if_neg (show ¬ nI W = 24 from fun q => by have := (nI_eq (a := W) (b := 24) (by omega) (by decide)).mp q; omega), show (363 : Int32) + nI W = nI (363 + W) by rw [show (363 : Int32) = nI 363 from rfl, nI_add], nI_clamp (by omega)]
    refine ⟨v4, v4, vp_in_nI (by omega) (by decide), ?_⟩
    simp only [nmS]
    rw [st_st, st_same, st_same, pk_us, pk_un (show 4 ≠ 363 + W by omega), eM, nI_1]
    refine ⟨v4, v4, v4, rfl, ?_⟩
    have lws : (H.2.2.2.2 ++ [x1]).length = W + 1 := by rw [List.length_append, hW]; rfl
    have wg : ∀ (j : Nat) (v : Int32), (H.2.2.2.2 ++ [x1])[j]? = some v → (j < W ∧ H.2.2.2.2[j]? = some v) ∨ (j = W ∧ v = x1) := by
      intro j v hj
      have hl : j < (H.2.2.2.2 ++ [x1]).length := (List.getElem?_eq_some_iff.mp hj).1
      rw [List.getElem?_append, hW] at hj
      by_cases q : j < W
      · rw [if_pos q] at hj; exact Or.inl ⟨q, hj⟩
      · have e : j = W := by omega
        subst e
        rw [if_neg q, Nat.sub_self] at hj
        exact Or.inr ⟨rfl, (Option.some.inj hj).symm⟩
    refine R.hse h1 h2 h3 (z := H.2.2.1) (tp := H.2.2.2.1) (ws := H.2.2.2.2 ++ [x1]) (fun o k ho => sI_ne (by omega)) (fun o k ho => st_ne (by omega)) rfl (fun k hk => st_ne (by omega)) (fun p hp => by rw [st_same, pk_un (by omega), pk_un (by omega)]) ?_ ?_ h3.2.2.2.1 (by omega) ⟨?_, fun j v hj => ?_⟩ ⟨?_, fun j v hj => ?_⟩ ⟨?_, fun j v hj => ?_⟩ ⟨?_, fun j v hj => ?_⟩
    · exact h1.2.2.2.1
    · rw [st_same, pk_un (by omega), pk_un (by omega)]; exact h2.2.2.1
    · exact h1.2.2.2.2.1.1
    · exact h1.2.2.2.2.1.2 j v hj
    · rw [sI_same, lws]
    · rw [sI_row, st_same]
      rcases wg j v hj with ⟨q, e⟩ | ⟨q, e⟩
      · rw [pk_un (by omega)]; exact h1.2.2.2.2.2.2 j v e
      · rw [q, e, pk_us]
    · rw [st_same, pk_un (by omega), pk_un (by omega)]; exact h2.2.2.2.1.1
    · have lt : j < H.2.2.2.1.length := (List.getElem?_eq_some_iff.mp hj).1
      have := h3.2.2.2.1
      rw [st_same, pk_un (by omega), pk_un (by omega)]; exact h2.2.2.2.1.2 j v hj
    · rw [st_same, pk_us, lws]
    · rw [st_same]
      rcases wg j v hj with ⟨q, e⟩ | ⟨q, e⟩
      · rw [pk_un (by omega), pk_un (by omega)]; exact h2.2.2.2.2.2 j v e
      · rw [q, e, pk_un (by omega), pk_us]
  · rw [if_neg (show ¬ nI W < 24 from nI_nlt (b := 24) (by omega) (by omega))]
    refine e_wrong 4 (by decide) rfl ?_
    unfold E_X7_tell
    refine ⟨v4, ?_⟩
    rw [c4, eM, if_pos (show nI W = 24 by rw [show W = 24 by omega]; rfl)]
    exact e_error 4 (by decide) rfl ⟨rfl, (R.err 4 (by decide)).up⟩
def chkN (N : Nat) (w a : Nat → Int32) : Nat → Nat → Int32
  | 0, _ => 0
  | n + 1, i => if i < N then (if w i = a i then chkN N w a n (i + 1) else 1 + nI i) else 1 + nI i
theorem f_check {c : Nat} {SC SM : St} (R : Rel c SC SM) : E_X6_check SC (fun r SC1 => E_X7_check SM (RQ c SC1 r)) := by
  obtain ⟨H, h1, h2, h3⟩ := R.1
  have h9 := h3.1.1
  have w24 := h3.2.2.2.2
  obtain ⟨W, hW⟩ : ∃ W, H.2.2.2.2.length = W := ⟨_, rfl⟩
  rw [hW] at w24
  have eC : SC.1 1 6 = nI W := by rw [← hW]; exact h1.2.2.2.2.2.1
  have eM : SM.2 17 0 4 = nI W := by rw [← hW]; exact h2.2.2.2.2.1
  have eW : ∀ i, i < W → SM.2 17 0 (363 + i) = SC.2 1 5 i := by
    intro i hi
    have hg : H.2.2.2.2[i]? = some H.2.2.2.2[i] := List.getElem?_eq_getElem (by omega)
    rw [h2.2.2.2.2.2 i _ hg, h1.2.2.2.2.2.2 i _ hg]
  have v4 : vp_in (4 : Int32) 387 := vp_in_nI (n := 4) (by decide) (by decide)
  have c4 : (4 : Int32).toNatClampNeg = 4 := by decide
  unfold E_X6_check
  simp only [nmI, nmS]
  rw [eC]
  have done : RQ c (stI SC 1 6 0) (chkN H.1.1 (SC.2 1 5) (H.1.2.2.2 3) W 0) (chkN H.1.1 (SC.2 1 5) (H.1.2.2.2 3) W 0) (stR SM 17 0 (upd (SM.2 17 0) 4 0)) := by
    refine ⟨rfl, R.hse h1 h2 h3 (z := H.2.2.1) (tp := H.2.2.2.1) (ws := []) (fun o k ho => sI_ne (by omega)) (fun _ _ _ => rfl) rfl (fun k hk => st_ne (by omega)) (fun p hp => by rw [st_same, pk_un (by omega)]) ?_ ?_ h3.2.2.2.1 (by decide) ⟨?_, fun j v hj => ?_⟩ ⟨?_, fun j v hj => ?_⟩ ⟨?_, fun j v hj => ?_⟩ ⟨?_, fun j v hj => ?_⟩⟩
    · exact h1.2.2.2.1
    · rw [st_same, pk_un (by omega)]; exact h2.2.2.1
    · exact h1.2.2.2.2.1.1
    · exact h1.2.2.2.2.1.2 j v hj
    · exact sI_same
    · exact absurd hj (by simp)
    · rw [st_same, pk_un (by omega)]; exact h2.2.2.2.1.1
    · rw [st_same, pk_un (by omega)]; exact h2.2.2.2.1.2 j v hj
    · rw [st_same, pk_us]; rfl
    · exact absurd hj (by simp)
  have mod : E_X7_check SM (RQ c (stI SC 1 6 0) (chkN H.1.1 (SC.2 1 5) (H.1.2.2.2 3) W 0)) := by
    unfold E_X7_check
    rw [c4, eM]
    refine ⟨v4, ?_⟩
    simp only [nmI, nmS]
    refine ⟨v4, W + 1, ?_⟩
    have N5 : (stR SM 17 0 (upd (SM.2 17 0) 4 0)).2 17 0 5 = nI H.1.1 := by rw [st_same, pk_un (by omega)]; exact h2.1.1
    have key : ∀ (n i : Nat), i + n = W → RQ c (stI SC 1 6 0) (chkN H.1.1 (SC.2 1 5) (H.1.2.2.2 3) W 0) (chkN H.1.1 (SC.2 1 5) (H.1.2.2.2 3) n i) (stR SM 17 0 (upd (SM.2 17 0) 4 0)) → L_X7_check_16 (RQ c (stI SC 1 6 0) (chkN H.1.1 (SC.2 1 5) (H.1.2.2.2 3) W 0)) (n + 1) (nI W) (nI i) (stR SM 17 0 (upd (SM.2 17 0) 4 0)) := by
      intro n
      induction n with
      | zero =>
        intro i hi hq
        unfold L_X7_check_16
        rw [show i = W by omega, if_pos (nI_le (Nat.le_refl _) (by omega))]
        exact hq
      | succ n ih =>
        intro i hi hq
        unfold L_X7_check_16
        rw [if_neg (nI_ge (show i < W by omega) (by omega))]
        rw [chkN] at hq
        by_cases hN : i < H.1.1
        · rw [if_pos hN] at hq
          refine dis_ok N5 h9 hN ?_
          rw [if_neg (by decide), show (363 : Int32) + nI i = nI (363 + i) by rw [show (363 : Int32) = nI 363 from rfl, nI_add], nI_clamp (by omega)]
          refine ⟨vp_in_nI (by omega) (by decide), e_its (w := 3) (by omega) (by decide) rfl ?_⟩
          rw [st_same, pk_un (by omega), pk_un (by omega), eW i (by omega), show SM.2 17 0 (8 + 5 * i + 3) = H.1.2.2.2 3 i from h2.1.2.2.2 3 i (by decide) hN]
          simp only [nmI]
          by_cases q : SC.2 1 5 i = H.1.2.2.2 3 i
          · rw [if_pos q] at hq ⊢
            rw [nI_1]
            exact ih (i + 1) (by omega) hq
          · rw [if_neg q] at hq ⊢
            exact hq
        · rw [if_neg hN] at hq
          refine dis_no N5 h9 (Or.inr (nI_le (by omega) (by omega))) ?_
          rw [if_pos rfl]
          exact hq
    exact key W 0 (by omega) done
  have key : ∀ (n i : Nat), i + n = W → E_X7_check SM (RQ c (stI SC 1 6 0) (chkN H.1.1 (SC.2 1 5) (H.1.2.2.2 3) n i)) → L_X6_check_18 (fun r SC1 => E_X7_check SM (RQ c SC1 r)) (n + 1) (nI W) (nI i) (stI SC 1 6 0) := by
    intro n
    induction n with
    | zero =>
      intro i hi hq
      unfold L_X6_check_18
      rw [show i = W by omega, if_pos (nI_le (Nat.le_refl _) (by omega))]
      exact hq
    | succ n ih =>
      intro i hi hq
      unfold L_X6_check_18
      rw [if_neg (nI_ge (show i < W by omega) (by omega))]
      rw [chkN] at hq
      have N3 : (stI SC 1 6 0).1 3 2 = nI H.1.1 := by rw [sI_ne (by omega)]; exact h1.1.1
      by_cases hN : i < H.1.1
      · rw [if_pos hN] at hq
        refine has_ok N3 h9 hN ?_
        rw [if_neg (by decide), nI_clamp (by omega)]
        refine ⟨vp_in_nI (by omega) (by decide), vp_in_nI (by omega) (by decide), ?_⟩
        simp only [nmI]
        rw [sI_row, sI_row, show SC.2 3 8 i = H.1.2.2.2 3 i from h1.1.2.2.2 3 i (by decide) hN]
        by_cases q : SC.2 1 5 i = H.1.2.2.2 3 i
        · rw [if_pos q] at hq ⊢
          rw [nI_1]
          exact ih (i + 1) (by omega) hq
        · rw [if_neg q] at hq ⊢
          exact hq
      · rw [if_neg hN] at hq
        refine has_no N3 (Or.inr (nI_le (by omega) (by omega))) ?_
        rw [if_pos rfl]
        exact hq
  exact ⟨W + 1, key W 0 (by omega) mod⟩
/-! judge, serves -/
def jdN (N : Nat) (g v : Nat → Int32) : Nat → Nat → Int32
  | 0, i => nI i
  | n + 1, i => if i < N then (if g i = v i then jdN N g v n (i + 1) else nI i) else nI i
theorem lk_ok {S : St} {Q : Int32 → St → Prop} {j : Nat} (hj : j ≤ 3) (e : ¬ S.2 17 18 j = 0) (h : Q 0 S) : E_X7_lacks (nI j) S Q := by
  unfold E_X7_lacks
  refine ms_ok ⟨nI_pos (by omega), nI_nlt (a := 3) hj (by decide)⟩ ?_
  rw [if_neg (by decide), nI_clamp (by omega), if_neg e]
  exact ⟨vp_in_nI (by omega) (by decide), h⟩
theorem lk_2 {S : St} {Q : Int32 → St → Prop} {j : Nat} (hj : j ≤ 3) (e : S.2 17 18 j = 0) (h : Q 2 S) : E_X7_lacks (nI j) S Q := by
  unfold E_X7_lacks
  refine ms_ok ⟨nI_pos (by omega), nI_nlt (a := 3) hj (by decide)⟩ ?_
  rw [if_neg (by decide), nI_clamp (by omega), if_pos e]
  exact ⟨vp_in_nI (by omega) (by decide), h⟩
theorem lk_1 {S : St} {Q : Int32 → St → Prop} {x : Int32} (hx : x < 0 ∨ 3 < x) (h : Q 1 S) : E_X7_lacks x S Q := by
  unfold E_X7_lacks
  refine ms_no hx ?_
  rw [if_pos rfl]
  exact h
theorem f_judge {c : Nat} {SC SM : St} (R : Rel c SC SM) (x1 : Int32) : E_X6_judge x1 SC (fun r SC1 => E_X7_judge x1 SM (RQ c SC1 r)) := by
  obtain ⟨H, h1, h2, h3⟩ := R.1
  have h9 := h3.1.1
  have hLC := lawsC_of h1 R.2.1
  unfold E_X6_judge
  rcases win x1 0 3 with hw | hw
  · refine sh_no hw ?_
    rw [if_pos rfl]
    refine e_wrong 1 (by decide) rfl ?_
    unfold E_X7_judge
    refine lk_1 hw ?_
    rw [if_neg (by decide)]
    exact e_error 1 (by decide) rfl ⟨rfl, (R.err 1 (by decide)).up⟩
  refine sh_ok hw ?_
  rw [if_neg (by decide)]
  obtain ⟨j, hj, rfl⟩ := win_nI (b := 3) (m := 3) rfl (by decide) hw
  have hv : vp_in (nI j) 4 := vp_in_nI (by omega) (by decide)
  rw [nI_clamp (by omega)]
  refine ⟨hv, ?_⟩
  obtain ⟨b, n, g1, g2, g3, g4, g5, g6, g7⟩ := R.2.2.2.2.2 j (by omega)
  by_cases z : b = 0
  · refine miss1 (by rw [g3, z]) ?_
    rw [if_neg (by decide)]
    refine e_wrong 2 (by decide) rfl ?_
    unfold E_X7_judge
    refine lk_2 hj (by rw [g4, z]) ?_
    rw [if_neg (by decide)]
    exact e_error 2 (by decide) rfl ⟨rfl, (R.err 2 (by decide)).up⟩
  refine miss0 (by rw [g3]; exact z) ?_
  rw [if_pos rfl]
  obtain ⟨g, hg⟩ : ∃ g : Nat → Int32, ∀ i, SC.2 (13 + j) 2 i = g i := ⟨_, fun _ => rfl⟩
  have mod : ∀ (SC1 : St), FrC 3 SC SC1 → E_X7_judge (nI j) SM (RQ c SC1 (jdN H.1.1 g (clmD H.2.1.1 H.1) n 0)) := by
    intro SC1 fC
    unfold E_X7_judge
    refine lk_ok hj (by rw [g4]; exact z) ?_
    rw [if_pos rfl]
    have key : ∀ (m i : Nat) (S1 : St), i + m = n → FrG SM S1 → jdN H.1.1 g (clmD H.2.1.1 H.1) m i = jdN H.1.1 g (clmD H.2.1.1 H.1) n 0 → L_X7_judge_18 (RQ c SC1 (jdN H.1.1 g (clmD H.2.1.1 H.1) n 0)) (m + 1) (nI j) (nI i) S1 := by
      intro m
      induction m with
      | zero =>
        intro i S1 hi hF he
        unfold L_X7_judge_18
        rw [nI_clamp (by omega), hF.2 17 19 (by omega), g6, if_pos (nI_le (by omega) (by omega))]
        exact ⟨hv, he.symm, R.same (Or.inl rfl) fC hF⟩
      | succ m ih =>
        intro i S1 hi hF he
        unfold L_X7_judge_18
        rw [nI_clamp (by omega), hF.2 17 19 (by omega), g6, if_neg (nI_ge (show i < n by omega) (by omega))]
        refine ⟨hv, ?_⟩
        rw [jdN] at he
        by_cases hN : i < H.1.1
        · rw [if_pos hN] at he
          refine dis_ok (hF.tb h2.1).1 h9 hN ?_
          rw [if_neg (by decide)]
          refine e_X7_claimOf (hF.tb h2.1) (hF.lw h2.2.1) h3.2.1 hN h9 (fun S2 f2 => ?_)
          rw [show ((24 : Int32) * nI j) + nI i = nI (24 * j + i) by rw [show (24 : Int32) = nI 24 from rfl, pk_mul, nI_add], nI_clamp (by omega), f2.2 17 20 (by omega), hF.2 17 20 (by omega), ← g7 i (by omega), hg i]
          refine ⟨vp_in_nI (by omega) (by decide), ?_⟩
          simp only [nmI]
          by_cases q : g i = clmD H.2.1.1 H.1 i
          · rw [if_pos q] at he
            rw [if_pos q.symm, nI_1]
            exact ih (i + 1) S2 (by omega) (hF.tr f2.g) he
          · rw [if_neg q] at he
            rw [if_neg (fun e => q e.symm)]
            exact ⟨he.symm, R.same (Or.inl rfl) fC (hF.tr f2.g)⟩
        · rw [if_neg hN] at he
          refine dis_no (hF.tb h2.1).1 h9 (Or.inr (nI_le (by omega) (by omega))) ?_
          rw [if_pos rfl]
          exact ⟨he.symm, R.same (Or.inl rfl) fC hF⟩
    exact ⟨n + 1, key n 0 SM (by omega) FrG.rf rfl⟩
  have key : ∀ (m i : Nat) (S1 : St), i + m = n → FrC 3 SC S1 → jdN H.1.1 g (clmD H.2.1.1 H.1) m i = jdN H.1.1 g (clmD H.2.1.1 H.1) n 0 → L_X6_judge_35 (fun r SC1 => E_X7_judge (nI j) SM (RQ c SC1 r)) (m + 1) (13 + j) (nI i) S1 := by
    intro m
    induction m with
    | zero =>
      intro i S1 hi hF he
      unfold L_X6_judge_35
      rw [hF.1, g5, if_pos (nI_le (by omega) (by omega))]
      have := mod S1 hF
      rw [← he, jdN, show i = n by omega] at this
      exact this
    | succ m ih =>
      intro i S1 hi hF he
      unfold L_X6_judge_35
      rw [hF.1, g5, if_neg (nI_ge (show i < n by omega) (by omega))]
      rw [jdN] at he
      by_cases hN : i < H.1.1
      · rw [if_pos hN] at he
        refine has_ok (hF.tb (Or.inl rfl) h1.1).1 h9 hN ?_
        rw [if_neg (by decide), nI_clamp (by omega)]
        refine ⟨vp_in_nI (by omega) (by decide), ?_⟩
        refine e_X4_claimOf (Or.inl rfl) (hF.tb (Or.inl rfl) h1.1) (hF.lw (Or.inl rfl) hLC) h3.2.1 hN h9 (fun S2 f2 => ?_)
        rw [hF.2 (13 + j) 2 (by omega) (by omega), hg i]
        simp only [nmI]
        by_cases q : g i = clmD H.2.1.1 H.1 i
        · rw [if_pos q] at he ⊢
          rw [nI_1]
          exact ih (i + 1) S2 (by omega) (hF.tr f2.c) he
        · rw [if_neg q] at he ⊢
          have := mod S2 (hF.tr f2.c)
          rw [← he] at this
          exact this
      · rw [if_neg hN] at he
        refine has_no (hF.tb (Or.inl rfl) h1.1).1 (Or.inr (nI_le (by omega) (by omega))) ?_
        rw [if_pos rfl]
        have := mod S1 hF
        rw [← he] at this
        exact this
  exact ⟨n + 1, key n 0 SC (by omega) FrC.rf rfl⟩
def srN (N : Nat) (g : Nat → Int32) : Nat → Nat → (Nat → Int32) → Int32 × (Nat → Int32)
  | 0, i, f => (nI i, f)
  | n + 1, i, f => if i < N then (if g i < 0 ∨ 99 < g i then (nI i, f) else srN N g n (i + 1) (upd f i (g i))) else (nI i, f)
theorem tS_upd {T : TB} {f : Nat → Int32} {S : St} {t d : Nat} {v : Int32} (b : tbC S t (tS T f)) : tbC (stR S t 7 (upd (S.2 t 7) d v)) t (tS T (upd f d v)) := by
  refine tbC_ext (tbC_set (w := 2) (d := d) (v := v) (k := 7) rfl b) rfl rfl rfl (fun w e hw _ => ?_)
  show (if w = 2 then upd f d v e else T.2.2.2 w e) = if w = 2 ∧ e = d then v else (if w = 2 then f e else T.2.2.2 w e)
  by_cases q : w = 2
  · rw [if_pos q]
    by_cases q2 : e = d
    · rw [if_pos ⟨q, q2⟩, q2, pk_us]
    · rw [if_neg (fun x => q2 x.2), if_pos q, pk_un q2]
  · rw [if_neg q, if_neg (fun x => q x.1), if_neg q]
theorem tS_updM {T : TB} {f : Nat → Int32} {S : St} {d : Nat} {v : Int32} (hd : d < 9) (h9 : T.1 ≤ 9) (b : tbM S (tS T f)) : tbM (stR S 17 0 (upd (S.2 17 0) (8 + 5 * d + 2) v)) (tS T (upd f d v)) := by
  refine tbM_ext (tbM_set (T := tS T f) (w := 2) (d := d) (v := v) (by decide) hd h9 b) rfl rfl rfl (fun w e hw _ => ?_)
  show (if w = 2 then upd f d v e else T.2.2.2 w e) = if w = 2 ∧ e = d then v else (if w = 2 then f e else T.2.2.2 w e)
  by_cases q : w = 2
  · rw [if_pos q]
    by_cases q2 : e = d
    · rw [if_pos ⟨q, q2⟩, q2, pk_us]
    · rw [if_neg (fun x => q2 x.2), if_pos q, pk_un q2]
  · rw [if_neg q, if_neg (fun x => q x.1), if_neg q]
theorem f_serves {c : Nat} {SC SM : St} (R : Rel c SC SM) (x1 : Int32) : E_X6_serves x1 SC (fun r SC1 => E_X7_serves x1 SM (RQ c SC1 r)) := by
  obtain ⟨H, h1, h2, h3⟩ := R.1
  have h9 := h3.1.1
  unfold E_X6_serves
  rcases win x1 0 3 with hw | hw
  · refine sh_no hw ?_
    rw [if_pos rfl]
    refine e_wrong 1 (by decide) rfl ?_
    unfold E_X7_serves
    refine lk_1 hw ?_
    rw [if_neg (by decide)]
    exact e_error 1 (by decide) rfl ⟨rfl, (R.err 1 (by decide)).up⟩
  refine sh_ok hw ?_
  rw [if_neg (by decide)]
  obtain ⟨j, hj, rfl⟩ := win_nI (b := 3) (m := 3) rfl (by decide) hw
  have hv : vp_in (nI j) 4 := vp_in_nI (by omega) (by decide)
  rw [nI_clamp (by omega)]
  refine ⟨hv, ?_⟩
  obtain ⟨b, n, g1, g2, g3, g4, g5, g6, g7⟩ := R.2.2.2.2.2 j (by omega)
  by_cases z : b = 0
  · refine miss1 (by rw [g3, z]) ?_
    rw [if_neg (by decide)]
    refine e_wrong 2 (by decide) rfl ?_
    unfold E_X7_serves
    refine lk_2 hj (by rw [g4, z]) ?_
    rw [if_neg (by decide)]
    exact e_error 2 (by decide) rfl ⟨rfl, (R.err 2 (by decide)).up⟩
  refine miss0 (by rw [g3]; exact z) ?_
  rw [if_pos rfl]
  obtain ⟨g, hg⟩ : ∃ g : Nat → Int32, ∀ i, SC.2 (13 + j) 2 i = g i := ⟨_, fun _ => rfl⟩
  obtain ⟨Z, hZ⟩ : ∃ Z, srN H.1.1 g n 0 (H.1.2.2.2 2) = Z := ⟨_, rfl⟩
  have inv : ∀ (m i : Nat) (f : Nat → Int32), InvT (tS H.1 f) → InvT (tS H.1 (srN H.1.1 g m i f).2) := by
    intro m
    induction m with
    | zero => intro i f hI; exact hI
    | succ m ih =>
      intro i f hI
      rw [srN]
      by_cases hN : i < H.1.1
      · rw [if_pos hN]
        by_cases q : g i < 0 ∨ 99 < g i
        · rw [if_pos q]; exact hI
        · rw [if_neg q]
          refine ih (i + 1) _ ⟨hI.1, hI.2.1, fun d hd w hw => ?_⟩
          show 0 ≤ (if w = 2 then upd f i (g i) d else H.1.2.2.2 w d : Int32).toInt ∧ (if w = 2 then upd f i (g i) d else H.1.2.2.2 w d : Int32).toInt ≤ mx w
          have hh := hI.2.2 d hd w hw
          by_cases e : w = 2
          · subst e
            rw [if_pos rfl]
            by_cases e2 : d = i
            · subst e2
              rw [pk_us]
              have := rg_of (m := 99) (b := 99) rfl (by decide) ⟨fun x => q (Or.inl x), fun x => q (Or.inr x)⟩
              exact this
            · rw [pk_un e2]; exact hh
          · rw [if_neg e]
            have h0 : (tS H.1 f).2.2.2 w d = H.1.2.2.2 w d := if_neg e
            rw [h0] at hh
            exact hh
      · rw [if_neg hN]; exact hI
  have tS0 : ∀ w d, (tS H.1 (H.1.2.2.2 2)).2.2.2 w d = H.1.2.2.2 w d := by
    intro w d
    show (if w = 2 then H.1.2.2.2 2 d else H.1.2.2.2 w d) = _
    split
    · rename_i q; rw [q]
    · rfl
  have iZ : InvT (tS H.1 Z.2) := by
    rw [← hZ]
    refine inv n 0 _ ⟨h3.1.1, h3.1.2.1, fun d hd w hw => ?_⟩
    rw [tS0]
    exact h3.1.2.2 d hd w hw
  have mod : ∀ (SC1 : St), FrT 3 SC SC1 → tbC SC1 3 (tS H.1 Z.2) → E_X7_serves (nI j) SM (RQ c SC1 Z.1) := by
    intro SC1 fC tC
    have fin : ∀ S1, FrM SM S1 → tbM S1 (tS H.1 Z.2) → Rel (c + 1) SC1 S1 := fun S1 fM tM => R.tab h1 h2 h3 fC fM tC tM iZ h3.2.2.1
    unfold E_X7_serves
    refine lk_ok hj (by rw [g4]; exact z) ?_
    rw [if_pos rfl]
    have key : ∀ (m i : Nat) (f : Nat → Int32) (S1 : St), i + m = n → FrM SM S1 → tbM S1 (tS H.1 f) → srN H.1.1 g m i f = Z → L_X7_serves_18 (RQ c SC1 Z.1) (m + 1) (nI j) (nI i) S1 := by
      intro m
      induction m with
      | zero =>
        intro i f S1 hi hF tM he
        unfold L_X7_serves_18
        rw [nI_clamp (by omega), hF.2.1 17 19 (by omega), g6, if_pos (nI_le (by omega) (by omega))]
        rw [srN] at he
        subst he
        exact ⟨hv, rfl, fin S1 hF tM⟩
      | succ m ih =>
        intro i f S1 hi hF tM he
        unfold L_X7_serves_18
        rw [nI_clamp (by omega), hF.2.1 17 19 (by omega), g6, if_neg (nI_ge (show i < n by omega) (by omega))]
        refine ⟨hv, ?_⟩
        rw [srN] at he
        by_cases hN : i < H.1.1
        · rw [if_pos hN] at he
          refine dis_ok tM.1 h9 hN ?_
          rw [if_neg (by decide), show ((24 : Int32) * nI j) + nI i = nI (24 * j + i) by rw [show (24 : Int32) = nI 24 from rfl, pk_mul, nI_add], nI_clamp (by omega), hF.2.1 17 20 (by omega), ← g7 i (by omega), hg i]
          refine ⟨vp_in_nI (by omega) (by decide), ?_⟩
          by_cases q : g i < 0 ∨ 99 < g i
          · rw [if_pos q] at he
            subst he
            refine i_no q ?_
            rw [if_pos rfl]
            exact ⟨rfl, fin S1 hF tM⟩
          · rw [if_neg q] at he
            refine i_ok ⟨fun x => q (Or.inl x), fun x => q (Or.inr x)⟩ ?_
            rw [if_neg (by decide), hF.2.1 17 20 (by omega), ← g7 i (by omega), hg i]
            refine ⟨vp_in_nI (by omega) (by decide), e_lays1 (w := 2) (by omega) (by decide) rfl ?_⟩
            simp only [nmI]
            rw [nI_1]
            exact ih (i + 1) _ _ (by omega) (hF.tr (FrM.set (by omega))) (tS_updM (by omega) h9 tM) he
        · rw [if_neg hN] at he
          subst he
          refine dis_no tM.1 h9 (Or.inr (nI_le (show H.1.1 ≤ i by omega) (by omega))) ?_
          rw [if_pos rfl]
          exact ⟨rfl, fin S1 hF tM⟩
    exact ⟨n + 1, key n 0 _ SM (by omega) FrM.rf (tbM_ext h2.1 rfl rfl rfl (fun w d _ _ => tS0 w d)) hZ⟩
  have key : ∀ (m i : Nat) (f : Nat → Int32) (S1 : St), i + m = n → FrT 3 SC S1 → tbC S1 3 (tS H.1 f) → srN H.1.1 g m i f = Z → L_X6_serves_35 (fun r SC1 => E_X7_serves (nI j) SM (RQ c SC1 r)) (m + 1) (13 + j) (nI i) S1 := by
    intro m
    induction m with
    | zero =>
      intro i f S1 hi hF tC he
      unfold L_X6_serves_35
      rw [hF.1 _ _ (by omega), g5, if_pos (nI_le (by omega) (by omega))]
      rw [srN, show i = n by omega] at he
      subst he
      exact mod S1 hF tC
    | succ m ih =>
      intro i f S1 hi hF tC he
      unfold L_X6_serves_35
      rw [hF.1 _ _ (by omega), g5, if_neg (nI_ge (show i < n by omega) (by omega))]
      rw [srN] at he
      by_cases hN : i < H.1.1
      · rw [if_pos hN] at he
        refine has_ok tC.1 h9 hN ?_
        rw [if_neg (by decide), nI_clamp (by omega), hF.2 (13 + j) 2 (by omega) (by omega), hg i]
        refine ⟨vp_in_nI (by omega) (by decide), ?_⟩
        by_cases q : g i < 0 ∨ 99 < g i
        · rw [if_pos q] at he
          subst he
          refine w_no q ?_
          rw [if_pos rfl]
          exact mod S1 hF tC
        · rw [if_neg q] at he
          refine w_ok ⟨fun x => q (Or.inl x), fun x => q (Or.inr x)⟩ ?_
          rw [if_neg (by decide), hF.2 (13 + j) 2 (by omega) (by omega), hg i]
          refine ⟨vp_in_nI (by omega) (by decide), vp_in_nI (by omega) (by decide), ?_⟩
          simp only [nmI, nmS]
          rw [nI_1]
          exact ih (i + 1) _ _ (by omega) (hF.tr (FrT.row (by omega))) (tS_upd tC) he
      · rw [if_neg hN] at he
        subst he
        refine has_no tC.1 (Or.inr (nI_le (show H.1.1 ≤ i by omega) (by omega))) ?_
        rw [if_pos rfl]
        exact mod S1 hF tC
  exact ⟨n + 1, key n 0 _ SC (by omega) FrT.rf (tbC_ext h1.1 rfl rfl rfl (fun w d _ _ => tS0 w d)) hZ⟩
