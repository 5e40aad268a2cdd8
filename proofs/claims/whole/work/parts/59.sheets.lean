/-! PAIRS OF CALLS: as, sheet, put, feed -/
def upN (k : Nat) : Nat := if k = 4 then 1 else if k = 5 then 2 else 0
theorem upN_lt {k : Nat} (h : 0 < k) : upN k < k := by
  unfold upN
  split
  · omega
  · split <;> omega
theorem sABV_up : ∀ k, k < 7 → 0 < k → sABV k = nI (upN k) := by decide
theorem e_above {k : Nat} {S : St} {Q : Int32 → St → Prop} (hk : k < 7) (h : Q (nI (upN k)) S) : E_X7_above (nI k) S Q := by
  have e4 : (nI k = 4) ↔ k = 4 := nI_eq (b := 4) (by omega) (by decide)
  have e5 : (nI k = 5) ↔ k = 5 := nI_eq (b := 5) (by omega) (by decide)
  unfold E_X7_above
  unfold upN at h
  by_cases h4 : k = 4
  · rw [if_pos (e4.mpr h4)]; rw [if_pos h4] at h; exact h
  · rw [if_neg (fun q => h4 (e4.mp q))]
    rw [if_neg h4] at h
    by_cases h5 : k = 5
    · rw [if_pos (e5.mpr h5)]; rw [if_pos h5] at h; exact h
    · rw [if_neg (fun q => h5 (e5.mp q))]; rw [if_neg h5] at h; exact h
def anc : Nat → Nat → Nat → Bool
  | 0, _, _ => false
  | n + 1, k, t => if k = t then true else if k = 0 then false else anc n (upN k) t
theorem as_C {S : St} {Q : Int32 → St → Prop} {x1 : Int32} {t : Nat} (ht : t ≤ 6) (hx : vp_in x1 9) : ∀ n k i : Nat, k < n → k ≤ 6 → i + n ≤ 7 → (if anc n k t = true then Q (S.2 3 6 x1.toNatClampNeg) S else E_X6_wrong 5 S (fun v S1 => Q v S1)) → L_X6_as_40 Q (n + 1) x1 (nI t) (nI k) (nI i) S := by
  intro n
  induction n with
  | zero => intro k i hk; exact absurd hk (Nat.not_lt_zero k)
  | succ n ih =>
    intro k i hk h6 hi h
    unfold L_X6_as_40
    rw [if_neg (show ¬ (7 : Int32) ≤ nI i from nI_ge (a := i) (b := 7) (by omega) (by decide)), if_neg (nI_pos (by omega))]
    unfold anc at h
    by_cases e : k = t
    · rw [if_pos (by rw [e])]
      rw [if_pos e, if_pos rfl] at h
      exact ⟨hx, h⟩
    · rw [if_neg (fun q => e ((nI_eq (by omega) (by omega)).mp q))]
      rw [if_neg e] at h
      refine ⟨vp_in_nI (by omega) (by decide), ?_⟩
      simp only [nmI]
      rw [nI_clamp (by omega), nI_1]
      by_cases e0 : k = 0
      · subst e0
        rw [if_pos rfl, if_neg (by decide)] at h
        unfold L_X6_as_40
        by_cases q : (7 : Int32) ≤ nI (i + 1)
        · rw [if_pos q]; exact h
        · rw [if_neg q, if_pos (by decide)]; exact h
      · rw [if_neg e0] at h
        rw [sABV_up k (by omega) (by omega)]
        have := upN_lt (k := k) (by omega)
        exact ih (upN k) (i + 1) (by omega) (by omega) (by omega) h
theorem as_M {S : St} {Q : Int32 → St → Prop} {x1 : Int32} {t : Nat} (ht : t ≤ 6) : ∀ n k : Nat, k < n → k ≤ 6 → (if anc n k t = true then E_X7_its x1 1 S (fun v S1 => Q v S1) else E_X7_error 5 S (fun v S1 => Q v S1)) → L_X7_as_31 Q n x1 (nI t) (nI k) S := by
  intro n
  induction n with
  | zero => intro k hk; exact absurd hk (Nat.not_lt_zero k)
  | succ n ih =>
    intro k hk h6 h
    unfold L_X7_as_31
    unfold anc at h
    by_cases e : k = t
    · have e1 : nI k = nI t := by rw [e]
      rw [if_pos e1, if_pos e1]
      rw [if_pos e, if_pos rfl] at h
      exact h
    · have e1 : ¬ nI k = nI t := fun q => e ((nI_eq (by omega) (by omega)).mp q)
      rw [if_neg e1, if_neg e1]
      rw [if_neg e] at h
      by_cases e0 : k = 0
      · subst e0
        rw [if_pos rfl, if_neg (by decide)] at h
        rw [if_pos (show nI 0 = 0 from rfl)]
        exact h
      · rw [if_neg e0] at h
        rw [if_neg (nI_ne0 (by omega) (by omega))]
        have := upN_lt (k := k) (by omega)
        exact e_above (by omega) (ih (upN k) (by omega) (by omega) h)
theorem f_as {c : Nat} {SC SM : St} (R : Rel c SC SM) (x1 x2 : Int32) : E_X6_as x1 x2 SC (fun r SC1 => E_X7_as x1 x2 SM (RQ c SC1 r)) := by
  obtain ⟨H, h1, h2, h3⟩ := R.1
  have h9 := h3.1.1
  have bad1 : x1 < 0 ∨ nI H.1.1 ≤ x1 → E_X6_as x1 x2 SC (fun r SC1 => E_X7_as x1 x2 SM (RQ c SC1 r)) := fun hb => by
    unfold E_X6_as
    refine has_no h1.1.1 hb ?_
    rw [if_pos rfl]
    refine e_wrong 1 (by decide) rfl ?_
    unfold E_X7_as
    refine dis_no h2.1.1 h9 hb ?_
    rw [if_pos rfl]
    exact e_error 1 (by decide) rfl ⟨rfl, (R.err 1 (by decide)).up⟩
  rcases pk_ix x1 (n := H.1.1) (by omega) with hb | hb | ⟨d, hd, rfl⟩
  · exact bad1 (Or.inl hb)
  · exact bad1 (Or.inr hb)
  unfold E_X6_as
  refine has_ok h1.1.1 h9 hd ?_
  rw [if_neg (by decide)]
  rcases win x2 0 6 with hw | hw
  · refine w_no hw ?_
    rw [if_pos rfl]
    refine e_wrong 1 (by decide) rfl ?_
    unfold E_X7_as
    refine dis_ok h2.1.1 h9 hd ?_
    rw [if_neg (by decide)]
    refine i_no hw ?_
    rw [if_pos rfl]
    exact e_error 1 (by decide) rfl ⟨rfl, (R.err 1 (by decide)).up⟩
  refine w_ok hw ?_
  rw [if_neg (by decide)]
  obtain ⟨t, ht, rfl⟩ := win_nI (b := 6) (m := 6) rfl (by decide) hw
  have hv : vp_in (nI d) 9 := vp_in_nI (by omega) (by decide)
  have hk0 := h3.1.2.2 d hd 0 (by decide)
  obtain ⟨k, hk, ek⟩ : ∃ k, k ≤ 6 ∧ H.1.2.2.2 0 d = nI k := by
    obtain ⟨n, hn, e⟩ := nI_of (x := H.1.2.2.2 0 d) (fun q => by have := Int32.lt_iff_toInt_lt.mp q; rw [Int32.toInt_zero] at this; omega)
    refine ⟨n, ?_, e⟩
    have := hk0.2
    rw [e, nI_toInt hn] at this
    have e6 : mx 0 = 6 := rfl
    omega
  refine ⟨hv, ?_⟩
  simp only [nmI]
  rw [nI_clamp (by omega), show SC.2 3 5 d = nI k by rw [← ek]; exact h1.1.2.2.2 0 d (by decide) hd]
  refine ⟨8, as_C ht hv 7 k 0 (by omega) hk (by decide) ?_⟩
  rw [nI_clamp (by omega), show SC.2 3 6 d = H.1.2.2.2 1 d from h1.1.2.2.2 1 d (by decide) hd]
  have head : ∀ (r : Int32) (SC1 : St), (if anc 7 k t = true then RQ c SC1 r (H.1.2.2.2 1 d) SM else E_X7_error 5 SM (fun v S1 => RQ c SC1 r v S1)) → E_X7_as (nI d) (nI t) SM (RQ c SC1 r) := by
    intro r SC1 h
    unfold E_X7_as
    refine dis_ok h2.1.1 h9 hd ?_
    rw [if_neg (by decide)]
    refine i_ok hw ?_
    rw [if_neg (by decide)]
    refine e_its (w := 0) (by omega) (by decide) rfl ?_
    rw [show SM.2 17 0 (8 + 5 * d + 0) = nI k by rw [← ek]; exact h2.1.2.2.2 0 d (by decide) hd]
    refine ⟨7, as_M ht 7 k (by omega) hk ?_⟩
    by_cases a : anc 7 k t = true
    · rw [if_pos a] at h ⊢
      refine e_its (w := 1) (by omega) (by decide) rfl ?_
      rw [show SM.2 17 0 (8 + 5 * d + 1) = H.1.2.2.2 1 d from h2.1.2.2.2 1 d (by decide) hd]
      exact h
    · rw [if_neg a] at h ⊢
      exact h
  by_cases a : anc 7 k t = true
  · rw [if_pos a]
    exact head _ _ (by rw [if_pos a]; exact ⟨rfl, R.up⟩)
  · rw [if_neg a]
    refine e_wrong 5 (by decide) rfl (head _ _ ?_)
    rw [if_neg a]
    exact e_error 5 (by decide) rfl ⟨rfl, (R.err 5 (by decide)).up⟩
/-- a pair of calls that worked upon the sheets alone -/
theorem Rel.shv {c : Nat} {SC SM SC1 SM1 : St} (R : Rel c SC SM) (hC : ∀ o, o < 13 → (∀ k, SC1.1 o k = SC.1 o k) ∧ ∀ k, SC1.2 o k = SC.2 o k) (hM : SM1.1 = SM.1) (hM2 : ∀ k, k < 18 → SM1.2 17 k = SM.2 17 k) (rs : rsh SC1 SM1) : Rel c SC1 SM1 := by
  obtain ⟨⟨H, h1, h2, h3⟩, h67, ⟨im, k1, k2, k3, k4⟩, re, ⟨tr, t1, t2, t3, t4⟩, -⟩ := R
  refine ⟨⟨H, hsC_fr h1 (fun o ho => hC o (by omega)), hsM_fr h2 (hM2 0 (by omega)), h3⟩, ?_, ⟨im, k1, by rw [(hC 0 (by omega)).1]; exact k2, by rw [hM]; exact k3, k4.imp_right (fun ⟨K, a, b, d⟩ => ⟨K, hsC_fr a (fun o ho => hC o (by omega)), hsM_fr b (by rw [kM, st_same, kM, st_same, hM2 1 (by omega)]), d⟩)⟩, fun k hk => ?_, ⟨tr, t1, by rw [(hC 12 (by omega)).1]; exact t2, by rw [hM]; exact t3, fun j v hj => ?_⟩, rs⟩
  · unfold rcon at *
    rw [(hC 6 (by omega)).1, (hC 6 (by omega)).1, (hC 7 (by omega)).1, (hC 7 (by omega)).1]
    exact h67
  · rw [(hC 0 (by omega)).2, hM2 4 (by omega)]; exact re k hk
  · rw [(hC 12 (by omega)).2, hM2 15 (by omega)]; exact t4 j v hj
def FrS (j : Nat) (S S1 : St) : Prop := ∀ o, o ≠ 13 + j → (∀ k, S1.1 o k = S.1 o k) ∧ ∀ k, S1.2 o k = S.2 o k
theorem FrS.tr {j : Nat} {S S1 S2 : St} (h : FrS j S S1) (g : FrS j S1 S2) : FrS j S S2 := fun o ho => ⟨fun k => ((g o ho).1 k).trans ((h o ho).1 k), fun k => ((g o ho).2 k).trans ((h o ho).2 k)⟩
theorem FrS.row {j k : Nat} {S : St} {f : Nat → Int32} : FrS j S (stR S (13 + j) k f) := fun _ ho => ⟨fun _ => rfl, fun _ => st_ne (fun e => ho e.1)⟩
theorem FrS.int {j k : Nat} {S : St} {v : Int32} : FrS j S (stI S (13 + j) k v) := fun _ ho => ⟨fun _ => sI_ne (fun e => ho e.1), fun _ => rfl⟩
theorem e_lay {S : St} {Q : St → Prop} {j : Nat} {b n : Int32} (h : ∀ S1, FrS j S S1 → S1.1 (13 + j) 0 = b → S1.1 (13 + j) 1 = n → (∀ i, i < 24 → S1.2 (13 + j) 2 i = 0) → Q S1) : E_X3_lay (13 + j) b n S Q := by
  unfold E_X3_lay
  simp only [nmS]
  have key : ∀ (m i : Nat) (S1 : St), i + m = 24 → FrS j S S1 → S1.1 (13 + j) 0 = b → S1.1 (13 + j) 1 = n → (∀ a, a < i → S1.2 (13 + j) 2 a = 0) → L_X3_lay_12 (13 + j) Q (m + 1) (nI i) S1 := by
    intro m
    induction m with
    | zero =>
      intro i S1 hi hF e0 e1 hz
      unfold L_X3_lay_12
      rw [show i = 24 by omega, if_pos (by decide)]
      exact h S1 hF e0 e1 (fun a ha => hz a (by omega))
    | succ m ih =>
      intro i S1 hi hF e0 e1 hz
      unfold L_X3_lay_12
      rw [if_neg (show ¬ (24 : Int32) ≤ nI i from nI_ge (a := i) (b := 24) (by omega) (by decide)), nI_clamp (by omega)]
      refine ⟨vp_in_nI (by omega) (by decide), ?_⟩
      simp only [nmI, nmS]
      rw [nI_1]
      refine ih (i + 1) _ (by omega) (hF.tr FrS.row) e0 e1 (fun a ha => ?_)
      rw [st_same]
      by_cases q : a = i
      · rw [q, pk_us]
      · rw [pk_un q]; exact hz a (by omega)
  exact ⟨25, key 24 0 _ (by decide) (FrS.int.tr FrS.int) (by rw [sI_ne (by omega), sI_same]) sI_same (fun a ha => absurd ha (Nat.not_lt_zero a))⟩
def FrP (S S1 : St) : Prop := S1.1 = S.1 ∧ ∀ k, k < 18 → S1.2 17 k = S.2 17 k
theorem FrP.tr {S S1 S2 : St} (h : FrP S S1) (g : FrP S1 S2) : FrP S S2 := ⟨g.1.trans h.1, fun k q => (g.2 k q).trans (h.2 k q)⟩
theorem FrP.row {k : Nat} {S : St} {f : Nat → Int32} (hk : 18 ≤ k) : FrP S (stR S 17 k f) := ⟨rfl, fun _ q => st_ne (by omega)⟩
theorem e_blank {S : St} {Q : Int32 → St → Prop} {j : Nat} (hj : j < 4) (h : ∀ f, (∀ i, i < 24 → f (24 * j + i) = 0) → (∀ p, (p < 24 * j ∨ 24 * j + 24 ≤ p) → f p = S.2 17 20 p) → Q 1 (stR S 17 20 f)) : ∃ k, L_X7_sheet_90 Q k (nI j) 0 S := by
  have key : ∀ (m i : Nat) (f : Nat → Int32), i + m = 24 → (∀ a, a < i → f (24 * j + a) = 0) → (∀ p, (p < 24 * j ∨ 24 * j + 24 ≤ p) → f p = S.2 17 20 p) → L_X7_sheet_90 Q (m + 1) (nI j) (nI i) (stR S 17 20 f) := by
    intro m
    induction m with
    | zero =>
      intro i f hi hz ho
      unfold L_X7_sheet_90
      rw [show i = 24 by omega, if_pos (by decide)]
      exact h f (fun a ha => hz a (by omega)) ho
    | succ m ih =>
      intro i f hi hz ho
      unfold L_X7_sheet_90
      rw [if_neg (show ¬ (24 : Int32) ≤ nI i from nI_ge (a := i) (b := 24) (by omega) (by decide)), show ((24 : Int32) * nI j) + nI i = nI (24 * j + i) by rw [show (24 : Int32) = nI 24 from rfl, pk_mul, nI_add], nI_clamp (by omega)]
      refine ⟨vp_in_nI (by omega) (by decide), ?_⟩
      simp only [nmI, nmS]
      rw [nI_1, st_same, st_st]
      refine ih (i + 1) _ (by omega) (fun a ha => ?_) (fun p hp => ?_)
      · by_cases q : a = i
        · rw [q, pk_us]
        · rw [pk_un (by omega)]; exact hz a (by omega)
      · rw [pk_un (by omega)]; exact ho p hp
  have := key 24 0 (S.2 17 20) (by decide) (fun a ha => absurd ha (Nat.not_lt_zero a)) (fun _ _ => rfl)
  rw [st_self] at this
  exact ⟨25, this⟩
theorem f_sheet {c : Nat} {SC SM : St} (R : Rel c SC SM) (x1 x2 x3 : Int32) : E_X6_sheet x1 x2 x3 SC (fun r SC1 => E_X7_sheet x1 x2 x3 SM (RQ c SC1 r)) := by
  unfold E_X6_sheet
  rcases win x1 0 3 with hw | hw
  · refine sh_no hw ?_
    rw [if_pos rfl]
    refine e_wrong 1 (by decide) rfl ?_
    unfold E_X7_sheet
    refine ms_no hw ?_
    rw [if_pos rfl]
    exact e_error 1 (by decide) rfl ⟨rfl, (R.err 1 (by decide)).up⟩
  refine sh_ok hw ?_
  rw [if_neg (by decide)]
  obtain ⟨j, hj, rfl⟩ := win_nI (b := 3) (m := 3) rfl (by decide) hw
  have hv : vp_in (nI j) 4 := vp_in_nI (by omega) (by decide)
  by_cases hb : x2 = 0 ∨ x2 = 8 ∨ x2 = 16 ∨ x2 = 32
  · have goC : ∀ Q, J_X6_sheet_35 Q (nI j) x2 x3 SC → (if x2 = 0 then (J_X6_sheet_35 Q (nI j) x2 x3 SC) else (if x2 = 8 then (J_X6_sheet_35 Q (nI j) x2 x3 SC) else (if x2 = 16 then (J_X6_sheet_35 Q (nI j) x2 x3 SC) else (if x2 = 32 then (J_X6_sheet_35 Q (nI j) x2 x3 SC) else (E_X6_wrong 1 SC (fun v15 S14 => Q v15 S14)))))) := by
      intro Q h
      rcases hb with e | e | e | e <;> subst e <;> exact h
    have goM : ∀ Q, J_X7_sheet_35 Q (nI j) x2 x3 SM → E_X7_sheet (nI j) x2 x3 SM Q := by
      intro Q h
      unfold E_X7_sheet
      refine ms_ok hw ?_
      rw [if_neg (by decide)]
      rcases hb with e | e | e | e <;> subst e <;> exact h
    refine goC _ ?_
    have done : ∀ (n : Nat), n ≤ 24 → nI n = (if x2 = 0 then 0 else x3) → J_X6_sheet_65 (fun r SC1 => E_X7_sheet (nI j) x2 x3 SM (RQ c SC1 r)) (nI j) x2 x3 SC := by
      intro n hn en
      have fin : ∀ S1, FrS j SC S1 → S1.1 (13 + j) 0 = x2 → S1.1 (13 + j) 1 = nI n → (∀ i, i < 24 → S1.2 (13 + j) 2 i = 0) → E_X7_sheet (nI j) x2 x3 SM (RQ c S1 1) := by
        intro S1 hF e0 e1 hz
        refine goM _ ?_
        have hM : J_X7_sheet_65 (RQ c S1 1) (nI j) x2 x3 SM := by
          unfold J_X7_sheet_65
          rw [nI_clamp (by omega)]
          refine ⟨hv, ?_⟩
          simp only [nmS]
          have fin2 : ∀ (v : Int32), v = nI n → ∃ k, L_X7_sheet_90 (RQ c S1 1) k (nI j) 0 (stR (stR SM 17 18 (upd (SM.2 17 18) j x2)) 17 19 (upd ((stR SM 17 18 (upd (SM.2 17 18) j x2)).2 17 19) j v)) := by
            intro v ev
            refine e_blank (by omega) (fun f hz2 ho => ⟨rfl, Rel.up (Rel.shv R (fun o ho => hF o (by omega)) ?_ (fun k hk => ?_) (fun a ha => ?_))⟩)
            · rfl
            · rw [st_ne (by omega), st_ne (by omega), st_ne (by omega)]
            · have r20 : (stR (stR (stR SM 17 18 (upd (SM.2 17 18) j x2)) 17 19 (upd ((stR SM 17 18 (upd (SM.2 17 18) j x2)).2 17 19) j v)) 17 20 f).2 17 20 = f := st_same
              have r19 : (stR (stR (stR SM 17 18 (upd (SM.2 17 18) j x2)) 17 19 (upd ((stR SM 17 18 (upd (SM.2 17 18) j x2)).2 17 19) j v)) 17 20 f).2 17 19 = upd (SM.2 17 19) j v := by
                rw [st_ne (by omega), st_same, st_ne (by omega)]
              have r18 : (stR (stR (stR SM 17 18 (upd (SM.2 17 18) j x2)) 17 19 (upd ((stR SM 17 18 (upd (SM.2 17 18) j x2)).2 17 19) j v)) 17 20 f).2 17 18 = upd (SM.2 17 18) j x2 := by
                rw [st_ne (by omega), st_ne (by omega), st_same]
              rw [r20, r19, r18]
              by_cases q : a = j
              · subst q
                rw [pk_us, pk_us, e0, e1, ev]
                exact ⟨x2, n, hb, hn, rfl, rfl, rfl, rfl, fun i hi => by rw [hz i hi, hz2 i hi]⟩
              · rw [pk_un q, pk_un q, (hF (13 + a) (by omega)).1, (hF (13 + a) (by omega)).1, (hF (13 + a) (by omega)).2]
                obtain ⟨b, m, g1, g2, g3, g4, g5, g6, g7⟩ := R.2.2.2.2.2 a ha
                refine ⟨b, m, g1, g2, g3, g4, g5, g6, fun i hi => ?_⟩
                rw [ho _ (by omega), st_ne (by omega), st_ne (by omega)]
                exact g7 i hi
          by_cases z : x2 = 0
          · rw [if_pos z] at en ⊢
            exact ⟨hv, fin2 _ en.symm⟩
          · rw [if_neg z] at en ⊢
            exact ⟨hv, fin2 _ en.symm⟩
        unfold J_X7_sheet_35
        by_cases z : x2 = 0
        · rw [if_pos z, if_pos z]; exact hM
        · rw [if_neg z] at en ⊢
          rw [if_pos (show (0 : Int32) ≤ x3 by rw [← en]; exact nI_pos' (by omega)), if_neg z, if_pos (show x3 ≤ 24 by rw [← en]; exact nI_le (b := 24) hn (by decide))]
          exact hM
      unfold J_X6_sheet_65
      rw [nI_clamp (by omega)]
      refine ⟨hv, ?_⟩
      by_cases z : x2 = 0
      · rw [if_pos z] at en ⊢
        rw [← en]
        exact e_lay fin
      · rw [if_neg z] at en ⊢
        rw [← en] at fin ⊢
        exact e_lay fin
    unfold J_X6_sheet_35
    by_cases z : x2 = 0
    · rw [if_pos z, if_pos z]
      exact done 0 (by decide) (by rw [if_pos z]; rfl)
    · rw [if_neg z]
      by_cases p0 : 0 ≤ x3
      · rw [if_pos p0, if_neg z]
        by_cases p1 : x3 ≤ 24
        · rw [if_pos p1]
          obtain ⟨n, hn, en⟩ := nI_of2 (x := x3) (M := 24) (n := 24) (by decide) (Int32.not_lt.mpr p0) p1
          exact done n hn (by rw [if_neg z, en])
        · rw [if_neg p1]
          refine e_wrong 1 (by decide) rfl (goM _ ?_)
          unfold J_X7_sheet_35
          rw [if_neg z, if_pos p0, if_neg z, if_neg p1]
          exact e_error 1 (by decide) rfl ⟨rfl, (R.err 1 (by decide)).up⟩
      · rw [if_neg p0]
        refine e_wrong 3 (by decide) rfl (goM _ ?_)
        unfold J_X7_sheet_35
        rw [if_neg z, if_neg p0]
        exact e_error 3 (by decide) rfl ⟨rfl, (R.err 3 (by decide)).up⟩
  · rw [if_neg (fun e => hb (Or.inl e)), if_neg (fun e => hb (Or.inr (Or.inl e))), if_neg (fun e => hb (Or.inr (Or.inr (Or.inl e)))), if_neg (fun e => hb (Or.inr (Or.inr (Or.inr e))))]
    refine e_wrong 1 (by decide) rfl ?_
    unfold E_X7_sheet
    refine ms_ok hw ?_
    rw [if_neg (by decide), if_neg (fun e => hb (Or.inl e)), if_neg (fun e => hb (Or.inr (Or.inl e))), if_neg (fun e => hb (Or.inr (Or.inr (Or.inl e)))), if_neg (fun e => hb (Or.inr (Or.inr (Or.inr e))))]
    exact e_error 1 (by decide) rfl ⟨rfl, (R.err 1 (by decide)).up⟩
theorem sx24 (x : Int32) : (x <<< ((24 : Int32) &&& 31)) >>> ((24 : Int32) &&& 31) = x.toInt8.toInt32 := by
  apply Int32.toBitVec_inj.mp
  rw [show ((24 : Int32) &&& 31) = 24 by decide, Int32.toBitVec_shiftRight, Int32.toBitVec_shiftLeft, Int8.toBitVec_toInt32, Int32.toBitVec_toInt8]
  rw [show (Int32.toBitVec 24).smod 32 = 24#32 by decide]
  apply BitVec.eq_of_getLsbD_eq
  intro i hi
  simp only [BitVec.shiftLeft_eq', BitVec.sshiftRight_eq', BitVec.getLsbD_sshiftRight, BitVec.getLsbD_signExtend, BitVec.getLsbD_shiftLeft, BitVec.msb_eq_getLsbD_last, show (24#32).toNat = 24 from rfl]
  have e32 : decide (32 ≤ i) = false := decide_eq_false (by omega)
  have e33 : decide (i < 32) = true := decide_eq_true (by omega)
  by_cases h : i < 8
  · have h1 : 24 + i < 32 := by omega
    have h2 : 24 + i - 24 = i := by omega
    have h3 : ¬ 24 + i < 24 := by omega
    simp [h, h1, h2, hi]
    rw [e32, decide_eq_false h3]
    simp
  · have h1 : ¬ 24 + i < 32 := by omega
    simp [h, h1, hi]
theorem sx16 (x : Int32) : (x <<< ((16 : Int32) &&& 31)) >>> ((16 : Int32) &&& 31) = x.toInt16.toInt32 := by
  apply Int32.toBitVec_inj.mp
  rw [show ((16 : Int32) &&& 31) = 16 by decide, Int32.toBitVec_shiftRight, Int32.toBitVec_shiftLeft, Int16.toBitVec_toInt32, Int32.toBitVec_toInt16]
  rw [show (Int32.toBitVec 16).smod 32 = 16#32 by decide]
  apply BitVec.eq_of_getLsbD_eq
  intro i hi
  simp only [BitVec.shiftLeft_eq', BitVec.sshiftRight_eq', BitVec.getLsbD_sshiftRight, BitVec.getLsbD_signExtend, BitVec.getLsbD_shiftLeft, BitVec.msb_eq_getLsbD_last, show (16#32).toNat = 16 from rfl]
  have e32 : decide (32 ≤ i) = false := decide_eq_false (by omega)
  have e33 : decide (i < 32) = true := decide_eq_true (by omega)
  by_cases h : i < 16
  · have h1 : 16 + i < 32 := by omega
    have h2 : 16 + i - 16 = i := by omega
    have h3 : ¬ 16 + i < 16 := by omega
    simp [h, h1, h2, hi]
    rw [e32, decide_eq_false h3]
    simp
  · have h1 : ¬ 16 + i < 32 := by omega
    simp [h, h1, hi]
theorem sx0 (x : Int32) : (x <<< ((0 : Int32) &&& 31)) >>> ((0 : Int32) &&& 31) = x := by
  rw [show ((0 : Int32) &&& 31) = 0 by decide]
  apply Int32.toBitVec_inj.mp
  rw [Int32.toBitVec_shiftRight, Int32.toBitVec_shiftLeft, show (Int32.toBitVec 0).smod 32 = 0#32 by decide]
  simp
theorem feed_b (x : Int64) : ∀ k : Nat, k < 8 → ((x.toUInt64 >>> ((8 * nI k).toInt64.toUInt64 &&& Int64.toUInt64 63)).toInt64).toInt32 &&& 255 = ((x >>> ((8 * nI k).toInt64 &&& 63)) &&& 255).toInt32 := by
  intro k hk
  have e1 : ∀ k : Nat, k < 8 → ((8 * nI k).toInt64.toUInt64 &&& Int64.toUInt64 63) = UInt64.ofNat (8 * k) := by decide
  have e2 : ∀ k : Nat, k < 8 → ((8 * nI k).toInt64 &&& 63) = Int64.ofNat (8 * k) := by decide
  have e3 : ∀ k : Nat, k < 8 → ((8#64 * BitVec.ofNat 64 k).smod 64#64).toNat = 8 * k := by decide
  have e4 : ∀ i : Nat, i < 32 → ¬ i < 8 → (255#32).getLsbD i = false := by decide
  rw [e1 k hk, e2 k hk]
  apply Int32.toBitVec_inj.mp
  apply BitVec.eq_of_getLsbD_eq
  intro i hi
  simp
  rw [e3 k hk, show 8 * k % 64 = 8 * k by omega]
  by_cases h : i < 8
  · have h1 : 8 * k + i < 64 := by omega
    have h2 : i < 64 := by omega
    have h3 : ¬ 64 ≤ i := by omega
    rw [BitVec.getLsbD_signExtend, BitVec.getLsbD_signExtend, BitVec.getLsbD_sshiftRight, BitVec.getLsbD_ushiftRight, if_pos h2, if_pos h2, if_pos h1, decide_eq_false h3]
    simp
  · rw [e4 i hi h, Bool.and_false, Bool.and_false]
theorem f_feed {c : Nat} {SC SM : St} (R : Rel c SC SM) (x1 : Int64) (x3 : Int32) : E_X6_feed x1 x3 SC (fun r SC1 => E_X7_feed x1 x3 SM (RQ c SC1 r)) := by
  obtain ⟨H, h1, h2, h3⟩ := R.1
  unfold E_X6_feed
  have v3 : vp_in (3 : Int32) 387 := vp_in_nI (n := 3) (by decide) (by decide)
  have c3 : (3 : Int32).toNatClampNeg = 3 := by decide
  rcases win x3 1 8 with hw | hw
  · refine w_no hw ?_
    rw [if_pos rfl]
    refine e_wrong 1 (by decide) rfl ?_
    unfold E_X7_feed
    refine i_no hw ?_
    rw [if_pos rfl]
    exact e_error 1 (by decide) rfl ⟨rfl, (R.err 1 (by decide)).up⟩
  refine w_ok hw ?_
  rw [if_neg (by decide)]
  obtain ⟨m, hm, em⟩ := win_nI (x := x3) (b := 8) (m := 8) rfl (by decide) ⟨fun q => hw.1 (Int32.lt_iff_toInt_lt.mpr (by have := Int32.lt_iff_toInt_lt.mp q; rw [Int32.toInt_zero] at this; rw [show (1 : Int32).toInt = 1 by decide]; omega)), hw.2⟩
  have hw0 := hw
  subst em
  have t60 := h3.2.2.2.1
  obtain ⟨N, hN⟩ : ∃ N, H.2.2.2.1.length = N := ⟨_, rfl⟩
  rw [hN] at t60
  have eC : SC.1 1 4 = nI N := by rw [← hN]; exact h1.2.2.2.2.1.1
  have eM : SM.2 17 0 3 = nI N := by rw [← hN]; exact h2.2.2.2.1.1
  rw [eC, nI_add]
  by_cases big : N + m ≤ 60
  · rw [if_pos (show nI (N + m) ≤ 60 from nI_le (b := 60) big (by decide))]
    obtain ⟨by8, hby⟩ : ∃ g : Nat → Int32, ∀ k, g k = ((x1 >>> ((8 * nI k).toInt64 &&& 63)) &&& 255).toInt32 := ⟨_, fun _ => rfl⟩
    obtain ⟨tp, htp⟩ : ∃ tp : List Int32, tp = H.2.2.2.1 ++ (List.range m).map by8 := ⟨_, rfl⟩
    have ltp : tp.length = N + m := by rw [htp, List.length_append, List.length_map, List.length_range, hN]
    have tpg : ∀ (j : Nat) (v : Int32), tp[j]? = some v → (j < N ∧ H.2.2.2.1[j]? = some v) ∨ (N ≤ j ∧ j < N + m ∧ v = by8 (j - N)) := by
      intro j v hj
      have hl : j < tp.length := (List.getElem?_eq_some_iff.mp hj).1
      rw [htp, List.getElem?_append, hN] at hj
      by_cases q : j < N
      · rw [if_pos q] at hj; exact Or.inl ⟨q, hj⟩
      · rw [if_neg q, List.getElem?_map, List.getElem?_range (show j - N < m by omega)] at hj
        exact Or.inr ⟨by omega, by omega, (Option.some.inj hj).symm⟩
    have mod : ∀ SC1 : St, SC1.1 1 4 = nI (N + m) → (∀ o k, ¬ (o = 1 ∧ k = 4) → SC1.1 o k = SC.1 o k) → (∀ o k, ¬ (o = 1 ∧ k = 3) → SC1.2 o k = SC.2 o k) → (∀ j, SC1.2 1 3 j = if N ≤ j ∧ j < N + m then by8 (j - N) else SC.2 1 3 j) → E_X7_feed x1 (nI m) SM (RQ c SC1 (nI (N + m))) := by
      intro SC1 g1 g2 g3 g4
      unfold E_X7_feed
      refine i_ok hw0 ?_
      rw [if_neg (by decide), c3, eM, nI_add, if_pos (show nI (N + m) ≤ 60 from nI_le (b := 60) big (by decide))]
      refine ⟨v3, ?_⟩
      have key : ∀ (n i : Nat) (f : Nat → Int32), i + n = m → f 3 = nI (N + i) → (∀ p, p ≠ 3 → ¬ (303 + N ≤ p ∧ p < 303 + N + i) → f p = SM.2 17 0 p) → (∀ a, a < i → f (303 + N + a) = by8 a) → L_X7_feed_38 (RQ c SC1 (nI (N + m))) (n + 1) x1 (nI m) (nI i) (stR SM 17 0 f) := by
        intro n
        induction n with
        | zero =>
          intro i f hi f3 fo fi
          have e : i = m := by omega
          subst e
          unfold L_X7_feed_38
          rw [if_pos (nI_le (Nat.le_refl _) (by omega)), c3, st_same, f3]
          refine ⟨v3, rfl, ?_⟩
          have dn : Rel (c + 1) SC1 (stR SM 17 0 f) := by
            refine R.hse h1 h2 h3 (z := H.2.2.1) (tp := tp) (ws := H.2.2.2.2) (fun o k ho => g2 o k (by omega)) (fun o k ho => g3 o k (by omega)) rfl (fun k hk => st_ne (by omega)) (fun p hp => by rw [st_same, fo p (by omega) (by omega)]) ?_ ?_ (by omega) h3.2.2.2.2 ⟨?_, fun j v hj => ?_⟩ ⟨?_, fun j v hj => ?_⟩ ⟨?_, fun j v hj => ?_⟩ ⟨?_, fun j v hj => ?_⟩
            · rw [g2 _ _ (by omega)]; exact h1.2.2.2.1
            · rw [st_same, fo 2 (by omega) (by omega)]; exact h2.2.2.1
            · rw [g1, ltp]
            · rw [g4 j]
              rcases tpg j v hj with ⟨q, e⟩ | ⟨q, q2, e⟩
              · rw [if_neg (by omega)]; exact h1.2.2.2.2.1.2 j v e
              · rw [if_pos ⟨q, q2⟩, e]
            · rw [g2 _ _ (by omega)]; exact h1.2.2.2.2.2.1
            · rw [g3 _ _ (by omega)]; exact h1.2.2.2.2.2.2 j v hj
            · rw [st_same, f3, ltp]
            · rw [st_same]
              rcases tpg j v hj with ⟨q, e⟩ | ⟨q, q2, e⟩
              · rw [fo _ (by omega) (by omega)]; exact h2.2.2.2.1.2 j v e
              · rw [e, show 303 + j = 303 + N + (j - N) by omega]; exact fi _ (by omega)
            · rw [st_same, fo 4 (by omega) (by omega)]; exact h2.2.2.2.2.1
            · have lw : j < H.2.2.2.2.length := (List.getElem?_eq_some_iff.mp hj).1
              have := h3.2.2.2.2
              rw [st_same, fo _ (by omega) (by omega)]; exact h2.2.2.2.2.2 j v hj
          exact dn
        | succ n ih =>
          intro i f hi f3 fo fi
          unfold L_X7_feed_38
          rw [if_neg (nI_ge (show i < m by omega) (by omega)), c3, st_same, f3, show (303 : Int32) + nI (N + i) = nI (303 + N + i) by rw [show (303 : Int32) = nI 303 from rfl, nI_add, ← Nat.add_assoc], nI_clamp (by omega)]
          refine ⟨v3, vp_in_nI (by omega) (by decide), ?_⟩
          simp only [nmI, nmS]
          rw [st_st, st_same, st_st, pk_un (show 3 ≠ 303 + N + i by omega), f3, nI_1, nI_1]
          refine ⟨v3, v3, ih (i + 1) _ (by omega) ?_ (fun p hp hq => ?_) (fun a ha => ?_)⟩
          · rw [pk_us]; rfl
          · rw [pk_un hp, pk_un (by omega)]
            exact fo p hp (by omega)
          · rw [pk_un (by omega)]
            by_cases q : a = i
            · rw [q, pk_us, hby]
            · rw [pk_un (by omega)]
              exact fi a (by omega)
      have := key m 0 (SM.2 17 0) (by omega) eM (fun _ _ _ => rfl) (fun a ha => absurd ha (Nat.not_lt_zero a))
      rw [st_self] at this
      exact ⟨m + 1, this⟩
    have key : ∀ (n i : Nat) (S1 : St), i + n = m → S1.1 = SC.1 → (∀ o k, ¬ (o = 1 ∧ k = 3) → S1.2 o k = SC.2 o k) → (∀ j, S1.2 1 3 j = if N ≤ j ∧ j < N + i then by8 (j - N) else SC.2 1 3 j) → L_X6_feed_39 (fun r SC1 => E_X7_feed x1 (nI m) SM (RQ c SC1 r)) (n + 1) x1 (nI m) (nI i) S1 := by
      intro n
      induction n with
      | zero =>
        intro i S1 hi g1 g3 g4
        have e : i = m := by omega
        subst e
        unfold L_X6_feed_39
        rw [if_pos (nI_le (Nat.le_refl _) (by omega))]
        simp only [nmS]
        rw [g1, eC, nI_add, sI_same]
        refine mod _ sI_same (fun o k q => ?_) g3 g4
        rw [sI_ne q, g1]
      | succ n ih =>
        intro i S1 hi g1 g3 g4
        unfold L_X6_feed_39
        rw [if_neg (nI_ge (show i < m by omega) (by omega)), g1, eC, nI_add, nI_clamp (by omega)]
        refine ⟨vp_in_nI (by omega) (by decide), ?_⟩
        simp only [nmI, nmS]
        rw [nI_1, feed_b x1 i (by omega), ← hby i]
        refine ih (i + 1) _ (by omega) g1 (fun o k q => ?_) (fun j => ?_)
        · rw [st_ne q]; exact g3 o k q
        · rw [st_same]
          by_cases q : j = N + i
          · rw [q, pk_us, if_pos (by omega), show N + i - N = i by omega]
          · rw [pk_un q, g4 j]
            by_cases w : N ≤ j ∧ j < N + i
            · rw [if_pos w, if_pos (by omega)]
            · rw [if_neg w, if_neg (by omega)]
    exact ⟨m + 1, key m 0 SC (by omega) rfl (fun _ _ _ => rfl) (fun j => by rw [if_neg (by omega)])⟩
  · rw [if_neg (show ¬ nI (N + m) ≤ 60 from nI_ge (a := 60) (by omega) (by omega))]
    refine e_wrong 4 (by decide) rfl ?_
    unfold E_X7_feed
    refine i_ok hw0 ?_
    rw [if_neg (by decide), c3, eM, nI_add, if_neg (show ¬ nI (N + m) ≤ 60 from nI_ge (a := 60) (by omega) (by omega))]
    exact ⟨v3, e_error 4 (by decide) rfl ⟨rfl, (R.err 4 (by decide)).up⟩⟩
