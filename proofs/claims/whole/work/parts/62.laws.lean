/-! PAIRS OF CALLS: untell -/
def setL (L : List Int32 × List Int32) (u : Nat) (ts : List Int32) : List Int32 × List Int32 := if u = 0 then (ts, L.2) else (L.1, ts)
/-- a pair of calls that worked upon the text of one law -/
theorem Rel.lawv0 {c : Nat} {SC SM SC1 SM1 : St} {H : HS} {u : Nat} {ts : List Int32} (R : Rel c SC SM) (h1 : hsC SC 1 H) (h2 : hsM SM H) (h3 : InvH H) (hu : u < 2) (hts : wfT ts) (eC : ∀ o, o ≠ 6 + u → o ≠ 10 → o ≠ 11 → (∀ k, SC1.1 o k = SC.1 o k) ∧ ∀ k, SC1.2 o k = SC.2 o k) (e0 : SC1.1 (6 + u) 0 = SC.1 (6 + u) 0) (e1 : SC1.1 (6 + u) 1 = SC.1 (6 + u) 1) (lC : lwC SC1 (6 + u) ts) (m1 : ∀ k, (k = 3 ∨ k = 14) → SM1.1 17 k = SM.1 17 k) (m2 : ∀ k, (k = 1 ∨ k = 4 ∨ k = 15 ∨ k = 18 ∨ k = 19 ∨ k = 20) → SM1.2 17 k = SM.2 17 k) (m3 : ∀ i, i < 387 → ¬ (53 + 125 * u ≤ i ∧ i < 178 + 125 * u) → SM1.2 17 0 i = SM.2 17 0 i) (lM : lwM SM1 u ts) : Rel c SC1 SM1 := by
  obtain ⟨b1, b2, b3, b4, b5, b6⟩ := h1
  obtain ⟨a1, ⟨a2, a3⟩, a4, a5, a6⟩ := h2
  have hg := R.2.1
  have h9 := h3.1.1
  have i1 := h3.2.1.1.1
  have i2 := h3.2.1.2.1
  have i3 := h3.2.2.2.1
  have i4 := h3.2.2.2.2
  have E := fun o (q1 : o ≠ 6 + u) (q2 : o ≠ 10) (q3 : o ≠ 11) => eC o q1 q2 q3
  have tC : tbC SC1 3 H.1 := by
    obtain ⟨x, y⟩ := E 3 (by omega) (by decide) (by decide)
    exact ⟨by rw [x]; exact b1.1, by rw [x]; exact b1.2.1, by rw [x]; exact b1.2.2.1, fun w d hw hd => by rw [y]; exact b1.2.2.2 w d hw hd⟩
  have tM : tbM SM1 H.1 := ⟨by rw [m3 _ (by omega) (by omega)]; exact a1.1, by rw [m3 _ (by omega) (by omega)]; exact a1.2.1, by rw [m3 _ (by omega) (by omega)]; exact a1.2.2.1, fun w d hw hd => by rw [m3 _ (by omega) (by omega)]; exact a1.2.2.2 w d hw hd⟩
  have lL : lwC SC1 6 (setL H.2.1 u ts).1 ∧ lwC SC1 7 (setL H.2.1 u ts).2 ∧ lwM SM1 0 (setL H.2.1 u ts).1 ∧ lwM SM1 1 (setL H.2.1 u ts).2 ∧ wfL (setL H.2.1 u ts) ∧ rcon SC1 := by
    rcases (show u = 0 ∨ u = 1 by omega) with rfl | rfl
    · obtain ⟨x, y⟩ := E 7 (by omega) (by decide) (by decide)
      refine ⟨lC, ⟨by rw [x]; exact b3.1, fun j t ht => by rw [y]; exact b3.2 j t ht⟩, lM, ⟨by rw [m3 _ (by omega) (by omega)]; exact a3.1, fun j t ht => ?_⟩, ⟨hts, h3.2.1.2⟩, ⟨e0.trans hg.1, e1.trans hg.2.1, by rw [x]; exact hg.2.2.1, by rw [x]; exact hg.2.2.2⟩⟩
      have hl : j < H.2.1.2.length := (List.getElem?_eq_some_iff.mp ht).1
      rw [m3 _ (by omega) (by omega), m3 _ (by omega) (by omega)]
      exact a3.2 j t ht
    · obtain ⟨x, y⟩ := E 6 (by omega) (by decide) (by decide)
      refine ⟨⟨by rw [x]; exact b2.1, fun j t ht => by rw [y]; exact b2.2 j t ht⟩, lC, ⟨by rw [m3 _ (by omega) (by omega)]; exact a2.1, fun j t ht => ?_⟩, lM, ⟨h3.2.1.1, hts⟩, ⟨by rw [x]; exact hg.1, by rw [x]; exact hg.2.1, e0.trans hg.2.2.1, e1.trans hg.2.2.2⟩⟩
      have hl : j < H.2.1.1.length := (List.getElem?_eq_some_iff.mp ht).1
      rw [m3 _ (by omega) (by omega), m3 _ (by omega) (by omega)]
      exact a2.2 j t ht
  obtain ⟨x, y⟩ := E 1 (by omega) (by decide) (by decide)
  refine R.work0 (fun o ho => eC o (by omega) (by omega) (by omega)) lL.2.2.2.2.2 m1 m2 ⟨(H.1, setL H.2.1 u ts, H.2.2), ⟨tC, lL.1, lL.2.1, by rw [x]; exact b4, ⟨by rw [x]; exact b5.1, fun j v hj => by rw [y]; exact b5.2 j v hj⟩, by rw [x]; exact b6.1, fun j v hj => by rw [y]; exact b6.2 j v hj⟩, ⟨tM, ⟨lL.2.2.1, lL.2.2.2.1⟩, by rw [m3 _ (by omega) (by omega)]; exact a4, ⟨by rw [m3 _ (by omega) (by omega)]; exact a5.1, fun j v hj => ?_⟩, by rw [m3 _ (by omega) (by omega)]; exact a6.1, fun j v hj => ?_⟩, h3.1, lL.2.2.2.2.1, h3.2.2⟩
  · have hl : j < H.2.2.2.1.length := (List.getElem?_eq_some_iff.mp hj).1
    rw [m3 _ (by omega) (by omega)]
    exact a5.2 j v hj
  · have hl : j < H.2.2.2.2.length := (List.getElem?_eq_some_iff.mp hj).1
    rw [m3 _ (by omega) (by omega)]
    exact a6.2 j v hj
theorem Rel.lawv {c : Nat} {SC SM SC1 SM1 : St} {H : HS} {u : Nat} {ts : List Int32} (R : Rel c SC SM) (h1 : hsC SC 1 H) (h2 : hsM SM H) (h3 : InvH H) (hu : u < 2) (hts : wfT ts) (eC : ∀ o, o ≠ 6 + u → o ≠ 10 → o ≠ 11 → (∀ k, SC1.1 o k = SC.1 o k) ∧ ∀ k, SC1.2 o k = SC.2 o k) (e0 : SC1.1 (6 + u) 0 = SC.1 (6 + u) 0) (e1 : SC1.1 (6 + u) 1 = SC.1 (6 + u) 1) (lC : lwC SC1 (6 + u) ts) (m1 : ∀ k, (k = 3 ∨ k = 14) → SM1.1 17 k = SM.1 17 k) (m2 : ∀ k, (k = 1 ∨ k = 4 ∨ k = 15 ∨ k = 18 ∨ k = 19 ∨ k = 20) → SM1.2 17 k = SM.2 17 k) (m3 : ∀ i, i < 387 → ¬ (53 + 125 * u ≤ i ∧ i < 178 + 125 * u) → SM1.2 17 0 i = SM.2 17 0 i) (lM : lwM SM1 u ts) : Rel (c + 1) SC1 SM1 := (R.lawv0 h1 h2 h3 hu hts eC e0 e1 lC m1 m2 m3 lM).up
theorem use_or {x : Int32} (h : ¬ x < 0 ∧ ¬ 1 < x) : ∃ u, u < 2 ∧ x = nI u := by
  obtain ⟨u, hu, e⟩ := win_nI (b := 1) (m := 1) rfl (by decide) h
  exact ⟨u, by omega, e⟩
theorem e_lawOf {u : Nat} {S : St} {Q : Nat → St → Prop} (hu : u < 2) (h : Q (6 + u) S) : E_X6_lawOf (nI u) S Q := by
  unfold E_X6_lawOf
  rcases (show u = 0 ∨ u = 1 by omega) with rfl | rfl
  · exact h
  · exact h
theorem okC_u {u : Nat} (hu : u < 2) : okO enC (6 + u) 1 := by
  rcases (show u = 0 ∨ u = 1 by omega) with rfl | rfl
  · exact okC_6
  · exact okC_7
theorem f_untell {c : Nat} {SC SM : St} (R : Rel c SC SM) (x1 : Int32) : E_X6_untell x1 SC (fun r SC1 => E_X7_untell x1 SM (RQ c SC1 r)) := by
  obtain ⟨H, h1, h2, h3⟩ := R.1
  unfold E_X6_untell
  rcases win x1 0 1 with hw | hw
  · refine us_no hw ?_
    rw [if_pos rfl]
    refine e_wrong 1 (by decide) rfl ?_
    unfold E_X7_untell
    refine i_no hw ?_
    rw [if_pos rfl]
    exact e_error 1 (by decide) rfl ⟨rfl, (R.err 1 (by decide)).up⟩
  refine us_ok hw ?_
  rw [if_neg (by decide)]
  obtain ⟨u, hu, rfl⟩ := use_or hw
  refine e_lawOf hu ⟨okC_u hu, ?_⟩
  have ix : (53 : Int32) + (125 * nI u) = nI (53 + 125 * u) := by rw [show (53 : Int32) = nI 53 from rfl, show (125 : Int32) = nI 125 from rfl, pk_mul, nI_add]
  have vu : vp_in (nI (53 + 125 * u)) 387 := vp_in_nI (by omega) (by decide)
  obtain ⟨n, hn, eC, eM⟩ : ∃ n : Nat, n ≤ 60 ∧ SC.1 (6 + u) 4 = nI n ∧ SM.2 17 0 (53 + 125 * u) = nI n := by
    rcases (show u = 0 ∨ u = 1 by omega) with rfl | rfl
    · exact ⟨_, h3.2.1.1.1, h1.2.1.1, h2.2.1.1.1⟩
    · exact ⟨_, h3.2.1.2.1, h1.2.2.1.1, h2.2.1.2.1⟩
  have fin : Rel (c + 1) (stI SC (6 + u) 4 0) (stR SM 17 0 (upd (SM.2 17 0) (53 + 125 * u) 0)) := by
    refine R.lawv h1 h2 h3 hu (ts := []) ⟨by decide, Or.inl rfl⟩ (fun o q _ _ => ⟨fun k => sI_ne (by omega), fun _ => rfl⟩) (sI_ne (by omega)) (sI_ne (by omega)) ⟨sI_same, fun j t ht => absurd ht (by simp)⟩ (fun _ _ => rfl) (fun k hk => st_ne (by omega)) (fun i _ hi => by rw [st_same, pk_un (by omega)]) ⟨by rw [st_same, pk_us]; rfl, fun j t ht => absurd ht (by simp)⟩
  have mod : ∀ r : Int32, r = (if nI n ≤ 0 then 0 else 1) → E_X7_untell (nI u) SM (RQ c (stI SC (6 + u) 4 0) r) := by
    intro r hr
    unfold E_X7_untell E_X7_hasText
    refine i_ok hw ?_
    rw [if_neg (by decide), ix, nI_clamp (by omega), eM]
    refine ⟨vu, ?_⟩
    by_cases z : nI n ≤ 0
    · rw [if_pos z] at hr ⊢
      exact ⟨vu, hr, fin⟩
    · rw [if_neg z] at hr ⊢
      exact ⟨vu, hr, fin⟩
  unfold E_X1_forget
  rw [eC]
  by_cases z : nI n ≤ 0
  · rw [if_pos z]
    exact mod 0 (by rw [if_pos z])
  · rw [if_neg z]
    exact mod 1 (by rw [if_neg z])
/-! loose -/
theorem drw_ex : ∃ f : Int32 → Int32, ∀ z, z * 1103515245 + 12345 = f z := ⟨_, fun _ => rfl⟩
noncomputable def drw : Int32 → Int32 := Classical.choose drw_ex
theorem drw_e (z : Int32) : z * 1103515245 + 12345 = drw z := Classical.choose_spec drw_ex z
theorem dwn_ex : ∃ f : Int32 → Nat, ∀ z : Int32, f z < 2 ^ 24 ∧ (z.toUInt32 >>> ((8 : Int32).toUInt32 &&& Int32.toUInt32 31)).toInt32 = nI (f z) := by
  refine ⟨fun z => (z.toUInt32 >>> ((8 : Int32).toUInt32 &&& Int32.toUInt32 31)).toInt32.toBitVec.toNat, fun z => ⟨?_, ?_⟩⟩
  · have e := pk_ushr z 8 8 (by decide)
    show ((z.toUInt32 >>> ((8 : Int32).toUInt32 &&& Int32.toUInt32 31)).toInt32).toBitVec.toNat < _
    rw [e]
    have := z.toBitVec.isLt
    omega
  · apply Int32.toBitVec_inj.mp
    apply BitVec.eq_of_toNat_eq
    rw [pk_tn (BitVec.isLt _)]
noncomputable def dwn : Int32 → Nat := Classical.choose dwn_ex
theorem dwn_e (z : Int32) : dwn z < 2 ^ 24 ∧ (z.toUInt32 >>> ((8 : Int32).toUInt32 &&& Int32.toUInt32 31)).toInt32 = nI (dwn z) := Classical.choose_spec dwn_ex z
def FrD (S S1 : St) : Prop := (∀ o k, ¬ (o = 3 ∧ (k = 3 ∨ k = 4)) → ¬ (o = 1 ∧ k = 7) → S1.1 o k = S.1 o k) ∧ ∀ o k, ¬ (k = 3 ∧ (o = 6 ∨ o = 7)) → ¬ (o = 3 ∧ (k = 7 ∨ k = 8 ∨ k = 10)) → S1.2 o k = S.2 o k
theorem FrD.rf {S : St} : FrD S S := ⟨fun _ _ _ _ => rfl, fun _ _ _ _ => rfl⟩
theorem FrD.tr {S S1 S2 : St} (h : FrD S S1) (g : FrD S1 S2) : FrD S S2 := ⟨fun o k q q2 => (g.1 o k q q2).trans (h.1 o k q q2), fun o k q q2 => (g.2 o k q q2).trans (h.2 o k q q2)⟩
theorem FrT.d {S S1 : St} (h : FrT 3 S S1) : FrD S S1 := ⟨fun o k q _ => h.1 o k q, fun o k q q2 => h.2 o k q q2⟩
def FrE (S S1 : St) : Prop := S1.1 = S.1 ∧ (∀ o k, ¬ (o = 17 ∧ (k = 0 ∨ (10 ≤ k ∧ k ≤ 13))) → S1.2 o k = S.2 o k) ∧ ∀ i, (i = 3 ∨ i = 4 ∨ 53 ≤ i) → S1.2 17 0 i = S.2 17 0 i
theorem FrE.rf {S : St} : FrE S S := ⟨rfl, fun _ _ _ => rfl, fun _ _ => rfl⟩
theorem FrE.tr {S S1 S2 : St} (h : FrE S S1) (g : FrE S1 S2) : FrE S S2 := ⟨g.1.trans h.1, fun o k q => (g.2.1 o k q).trans (h.2.1 o k q), fun i q => (g.2.2 i q).trans (h.2.2 i q)⟩
theorem FrM.e {S S1 : St} (h : FrM S S1) : FrE S S1 := ⟨h.1, h.2.1, fun i q => h.2.2 i (by omega)⟩
theorem FrD.lw {S S1 : St} {L : List Int32 × List Int32} (h : FrD S S1) (b : lawsC S L) : lawsC S1 L := by
  unfold lawsC lwC at *
  rw [h.1 _ _ (by omega) (by omega), h.1 _ _ (by omega) (by omega), h.1 _ _ (by omega) (by omega), h.1 _ _ (by omega) (by omega), h.1 _ _ (by omega) (by omega), h.1 _ _ (by omega) (by omega), h.2 _ _ (by omega) (by omega), h.2 _ _ (by omega) (by omega)]
  exact b
theorem FrE.lw {S S1 : St} {L : List Int32 × List Int32} (h : FrE S S1) (b : lawsM S L) : lawsM S1 L := by
  unfold lawsM lwM at *
  refine ⟨⟨by rw [h.2.2 _ (by omega)]; exact b.1.1, fun j t ht => ?_⟩, by rw [h.2.2 _ (by omega)]; exact b.2.1, fun j t ht => ?_⟩
  · rw [h.2.2 _ (by omega), h.2.2 _ (by omega)]; exact b.1.2 j t ht
  · rw [h.2.2 _ (by omega), h.2.2 _ (by omega)]; exact b.2.2 j t ht
theorem e_X0_draw {S : St} {Q : Int32 → St → Prop} {T : TB} {z : Int32} (ez : S.1 1 7 = z) (hb : tbC S 3 T) (h : ∀ S1, FrD S S1 → S1.1 1 7 = drw z → tbC S1 3 T → Q (nI (dwn (drw z))) S1) : E_X0_draw 1 S Q := by
  unfold E_X0_draw
  simp only [nmS]
  rw [ez, sI_same, drw_e, (dwn_e _).2]
  exact h _ ⟨fun o k _ q => sI_ne q, fun _ _ _ _ => rfl⟩ sI_same hb
theorem e_X7_draw {S : St} {Q : Int32 → St → Prop} {T : TB} {z : Int32} (ez : S.2 17 0 2 = z) (hb : tbM S T) (h : ∀ S1, FrE S S1 → S1.2 17 0 2 = drw z → tbM S1 T → Q (nI (dwn (drw z))) S1) : E_X7_draw S Q := by
  have v2 : vp_in (2 : Int32) 387 := vp_in_nI (n := 2) (by decide) (by decide)
  have c2 : (2 : Int32).toNatClampNeg = 2 := by decide
  unfold E_X7_draw
  rw [c2]
  simp only [nmS]
  rw [ez, st_same, pk_us, drw_e, (dwn_e _).2]
  refine ⟨v2, v2, v2, h _ ⟨rfl, fun o k q => st_ne (by omega), fun i hi => by rw [st_same, pk_un (by omega)]⟩ (by rw [st_same, pk_us]) ?_⟩
  exact ⟨by rw [st_same, pk_un (by omega)]; exact hb.1, by rw [st_same, pk_un (by omega)]; exact hb.2.1, by rw [st_same, pk_un (by omega)]; exact hb.2.2.1, fun w d hw hd => by rw [st_same, pk_un (by omega)]; exact hb.2.2.2 w d hw hd⟩
theorem dwv_rem (z : Int32) {N : Nat} {x : Int32} (hx : x = nI N) (h0 : 0 < N) (hN : N < 2 ^ 31) : nI (dwn z) - nI (dwn z) / x * x = nI (dwn z % N) := by
  have h := (dwn_e z).1
  rw [hx, pk_rem (by omega) h0 hN]
/-- the guests: z and the table behind them -/
noncomputable def gst (z : Int32) (T : TB) : Int32 × TB :=
  if T.1 = 0 then (z, T)
  else if nI (dwn (drw z) % 4) = 0 then
    (drw (drw (drw z)), tF T 2 (dwn (drw (drw z)) % T.1) (hld 99 (T.2.2.2 2 (dwn (drw (drw z)) % T.1) + nI (dwn (drw (drw (drw z))) % 20))))
  else (drw z, T)
theorem gst_inv {z : Int32} {T : TB} (hI : InvT T) : InvT (gst z T).2 ∧ (gst z T).2.1 = T.1 ∧ (gst z T).2.2.1 = T.2.1 := by
  unfold gst
  by_cases e : T.1 = 0
  · rw [if_pos e]; exact ⟨hI, rfl, rfl⟩
  · rw [if_neg e]
    by_cases q : nI (dwn (drw z) % 4) = 0
    · rw [if_pos q]
      have := hld_rg 99 (T.2.2.2 2 (dwn (drw (drw z)) % T.1) + nI (dwn (drw (drw (drw z))) % 20)) (by decide)
      exact ⟨InvT_F hI this.1 this.2, rfl, rfl⟩
    · rw [if_neg q]; exact ⟨hI, rfl, rfl⟩
theorem gst_sz {z : Int32} {T : TB} (hI : InvT T) (h0 : 0 < T.1) : 0 ≤ (T.2.2.2 2 (dwn (drw (drw z)) % T.1) + nI (dwn (drw (drw (drw z))) % 20)).toInt := by
  have a := hI.2.2 (dwn (drw (drw z)) % T.1) (Nat.mod_lt _ h0) 2 (by decide)
  have a2 : mx 2 = 99 := rfl
  have b := Nat.mod_lt (dwn (drw (drw (drw z)))) (show 0 < 20 by decide)
  rw [add_sm a.1 (by omega) (by rw [nI_toInt (by omega)]; omega) (by rw [nI_toInt (by omega)]; omega), nI_toInt (by omega)]
  omega
theorem rf12 : rf 1 2 = 3 := rfl
theorem e_dJ {S : St} {Q : Int32 → St → Prop} {T : TB} {z : Int32} {L : List Int32 × List Int32} (hI : InvT T) (ez : S.1 1 7 = z) (hb : tbC S 3 T) (hL : lawsC S L) (hwf : wfL L) (h : ∀ S1, FrD S S1 → S1.1 1 7 = drw z → tbC S1 3 (mealT L T (nI (dwn (drw z) % 30))).2 → Q (mealT L T (nI (dwn (drw z) % 30))).1 S1) : J_X0_dineByDraws_65 1 Q S := by
  unfold J_X0_dineByDraws_65
  refine e_X0_draw ez hb (fun S2 f2 e2 t2 => ?_)
  rw [dwv_rem _ (x := 30) (N := 30) rfl (by decide) (by decide), rf12]
  have hm := Nat.mod_lt (dwn (drw z)) (show 0 < 30 by decide)
  refine e_dine (Or.inl rfl) hI t2 (f2.lw hL) hwf (by rw [nI_toInt (by omega)]; omega) (by rw [nI_toInt (by omega)]; omega) (fun S3 f3 t3 => h S3 (f2.tr f3.d) ?_ t3)
  rw [f3.1 _ _ (by omega)]
  exact e2
theorem e_dT {S2 S3 : St} {K : St → Prop} {T : TB} {d : Nat} {r : Int32} (hd : d < T.1) (t2 : tbC S2 3 T) (t3 : tbC S3 3 T) (h0 : 0 ≤ (T.2.2.2 2 d + r).toInt) (h : ∀ S4, FrD S3 S4 → S4.1 1 7 = S3.1 1 7 → tbC S4 3 (tF T 2 d (hld 99 (T.2.2.2 2 d + r))) → K S4) : nmS (stR S3 3 7 (upd (S3.2 3 7) d (if (S2.2 3 7 d + r) < 99 then (S2.2 3 7 d + r) else 99))) (fun S12 => K S12) := by
  simp only [nmS]
  rw [show S2.2 3 7 d = T.2.2.2 2 d from t2.2.2.2 2 _ (by decide) hd, hld_min h0]
  exact h _ (FrT.row (by omega)).d rfl (tbC_set (w := 2) rfl t3)
theorem e_dG {S : St} {Q : Int32 → St → Prop} {T : TB} {z : Int32} (hI : InvT T) (ez : S.1 1 7 = z) (hb : tbC S 3 T) (J : ∀ S1, FrD S S1 → S1.1 1 7 = (gst z T).1 → tbC S1 3 (gst z T).2 → J_X0_dineByDraws_65 1 Q S1) : E_X0_dineByDraws 1 S Q := by
  unfold E_X0_dineByDraws
  rw [rf12, hb.1]
  have h9 := hI.1
  unfold gst at J
  by_cases e : T.1 = 0
  · rw [if_pos (show nI T.1 ≤ 0 by rw [e]; decide)]
    rw [if_pos e] at J
    exact J S FrD.rf ez hb
  · rw [if_neg (nI_nle (by omega) (by omega))]
    rw [if_neg e] at J
    refine e_X0_draw ez hb (fun S1 f1 e1 t1 => ?_)
    rw [dwv_rem _ (x := 4) (N := 4) rfl (by decide) (by decide)]
    by_cases q : nI (dwn (drw z) % 4) = 0
    · rw [if_pos q] at J
      rw [if_pos q]
      refine e_X0_draw e1 t1 (fun S2 f2 e2 t2 => ?_)
      have hN : 0 < T.1 := by omega
      have hd := Nat.mod_lt (dwn (drw (drw z))) hN
      have hd9 : vp_in (nI (dwn (drw (drw z)) % T.1)) 9 := vp_in_nI (by omega) (by decide)
      rw [t2.1]
      refine ⟨nI_ne0 (by omega) (by omega), ?_⟩
      simp only [nmI]
      rw [dwv_rem _ (N := T.1) rfl hN (by omega), nI_clamp (by omega)]
      refine ⟨hd9, e_X0_draw e2 t2 (fun S3 f3 e3 t3 => ⟨hd9, ?_⟩)⟩
      rw [dwv_rem _ (x := 20) (N := 20) rfl (by decide) (by decide)]
      exact e_dT hd t2 t3 (gst_sz hI hN) (fun S4 f4 e4 t4 => J S4 ((f1.tr f2).tr (f3.tr f4)) (e4.trans e3) t4)
    · rw [if_neg q] at J
      rw [if_neg q]
      exact J S1 f1 e1 t1
theorem e_dineBy {S : St} {Q : Int32 → St → Prop} {T : TB} {z : Int32} {L : List Int32 × List Int32} (hI : InvT T) (ez : S.1 1 7 = z) (hb : tbC S 3 T) (hL : lawsC S L) (hwf : wfL L) (h : ∀ S1, FrD S S1 → S1.1 1 7 = drw (gst z T).1 → tbC S1 3 (mealT L (gst z T).2 (nI (dwn (drw (gst z T).1) % 30))).2 → Q (mealT L (gst z T).2 (nI (dwn (drw (gst z T).1) % 30))).1 S1) : E_X0_dineByDraws 1 S Q :=
  e_dG hI ez hb (fun _ hF e1 t1 => e_dJ (gst_inv hI).1 e1 t1 (hF.lw hL) hwf (fun S2 f2 e2 t2 => h S2 (hF.tr f2) e2 t2))
theorem FrE.its {S S1 : St} {T : TB} {d w : Nat} (b : tbM S1 T) (hd : d < T.1) (hw : w < 5) : S1.2 17 0 (8 + 5 * d + w) = T.2.2.2 w d := b.2.2.2 w d hw hd
theorem e_guests {S : St} {Q : St → Prop} {T : TB} {z : Int32} (hI : InvT T) (ez : S.2 17 0 2 = z) (hb : tbM S T) (h : ∀ S1, FrE S S1 → S1.2 17 0 2 = (gst z T).1 → tbM S1 (gst z T).2 → Q S1) : E_X7_guests S Q := by
  have v5 : vp_in (5 : Int32) 387 := vp_in_nI (n := 5) (by decide) (by decide)
  have c5 : (5 : Int32).toNatClampNeg = 5 := by decide
  have h9 := hI.1
  unfold E_X7_guests
  rw [c5, hb.1]
  refine ⟨v5, ?_⟩
  by_cases e : T.1 = 0
  · rw [if_pos (show nI T.1 ≤ 0 by rw [e]; decide)]
    unfold gst at h
    rw [if_pos e] at h
    exact h S FrE.rf ez hb
  · rw [if_neg (nI_nle (by omega) (by omega))]
    refine e_X7_draw ez hb (fun S1 f1 e1 t1 => ?_)
    rw [dwv_rem _ (x := 4) (N := 4) rfl (by decide) (by decide)]
    unfold gst at h
    rw [if_neg e] at h
    by_cases q : nI (dwn (drw z) % 4) = 0
    · rw [if_pos q] at h ⊢
      refine e_X7_draw e1 t1 (fun S2 f2 e2 t2 => ?_)
      have hN : 0 < T.1 := by omega
      have hd := Nat.mod_lt (dwn (drw (drw z))) hN
      rw [t2.1]
      refine ⟨v5, nI_ne0 (by omega) (by omega), ?_⟩
      simp only [nmI]
      rw [dwv_rem _ (N := T.1) rfl hN (by omega)]
      refine e_its (w := 2) (by omega) (by decide) rfl ?_
      rw [FrE.its (S := S2) t2 hd (by decide)]
      refine e_X7_draw e2 t2 (fun S3 f3 e3 t3 => ?_)
      rw [dwv_rem _ (x := 20) (N := 20) rfl (by decide) (by decide)]
      refine e_held (e_lays1 (w := 2) (by omega) (by decide) rfl ?_)
      refine h _ ((f1.tr f2).tr (f3.tr (FrM.set (by omega)).e)) ?_ (tbM_set (by decide) (by omega) h9 t3)
      rw [st_same, pk_un (by omega)]
      exact e3
    · rw [if_neg q] at h ⊢
      exact h S1 f1 e1 t1
noncomputable def lsS (L : List Int32 × List Int32) (s : (Int32 × TB) × Int32) : (Int32 × TB) × Int32 := ((drw (gst s.1.1 s.1.2).1, (mealT L (gst s.1.1 s.1.2).2 (nI (dwn (drw (gst s.1.1 s.1.2).1) % 30))).2), s.2 + (mealT L (gst s.1.1 s.1.2).2 (nI (dwn (drw (gst s.1.1 s.1.2).1) % 30))).1)
noncomputable def lsN (L : List Int32 × List Int32) : Nat → (Int32 × TB) × Int32 → (Int32 × TB) × Int32
  | 0, s => s
  | n + 1, s => lsN L n (lsS L s)
theorem lsS_inv {L : List Int32 × List Int32} {s : (Int32 × TB) × Int32} (hI : InvT s.1.2) : InvT (lsS L s).1.2 ∧ (lsS L s).1.2.2.1 = s.1.2.2.1 + 1 := by
  obtain ⟨g1, g2, g3⟩ := gst_inv (z := s.1.1) hI
  have hm := Nat.mod_lt (dwn (drw (gst s.1.1 s.1.2).1)) (show 0 < 30 by decide)
  obtain ⟨a, -, -, -⟩ := mealT_inv (L := L) (h := nI (dwn (drw (gst s.1.1 s.1.2).1) % 30)) g1 (by rw [nI_toInt (by omega)]; omega) (by rw [nI_toInt (by omega)]; omega)
  exact ⟨a, by show (gst s.1.1 s.1.2).2.2.1 + 1 = _; rw [g3]⟩
theorem lsN_inv {L : List Int32 × List Int32} : ∀ (n : Nat) (s : (Int32 × TB) × Int32), InvT s.1.2 → 0 ≤ s.1.2.2.1.toInt → s.1.2.2.1.toInt + n ≤ 20000 → InvT (lsN L n s).1.2 ∧ (lsN L n s).1.2.2.1.toInt = s.1.2.2.1.toInt + n := by
  intro n
  induction n with
  | zero => intro s hI _ _; exact ⟨hI, by show s.1.2.2.1.toInt = _; omega⟩
  | succ n ih =>
    intro s hI h0 h1
    obtain ⟨a, b⟩ := lsS_inv (L := L) hI
    have d := day_1 h0 (by omega)
    obtain ⟨x, y⟩ := ih (lsS L s) a (by rw [b, d]; omega) (by rw [b, d]; omega)
    exact ⟨x, by show (lsN L n (lsS L s)).1.2.2.1.toInt = _; rw [y, b, d]; omega⟩
theorem f_loose {c : Nat} {SC SM : St} (R : Rel c SC SM) (x1 : Int32) : E_X6_loose x1 SC (fun r SC1 => E_X7_loose x1 SM (RQ c SC1 r)) := by
  obtain ⟨H, h1, h2, h3⟩ := R.1
  have h9 := h3.1.1
  have hLC := lawsC_of h1 R.2.1
  have v0 : vp_in (0 : Int32) 387 := vp_in_nI (n := 0) (by decide) (by decide)
  have c0 : (0 : Int32).toNatClampNeg = 0 := by decide
  unfold E_X6_loose
  rcases win x1 1 30 with hw | hw
  · refine w_no hw ?_
    rw [if_pos rfl]
    refine e_wrong 1 (by decide) rfl ?_
    unfold E_X7_loose
    refine i_no hw ?_
    rw [if_pos rfl]
    exact e_error 1 (by decide) rfl ⟨rfl, (R.err 1 (by decide)).up⟩
  refine w_ok hw ?_
  rw [if_neg (by decide)]
  obtain ⟨m, hm, em⟩ := win_nI (x := x1) (b := 30) (m := 30) rfl (by decide) ⟨fun q => hw.1 (Int32.lt_iff_toInt_lt.mpr (by have := Int32.lt_iff_toInt_lt.mp q; rw [Int32.toInt_zero] at this; rw [show (1 : Int32).toInt = 1 by decide]; omega)), hw.2⟩
  have hw0 := hw
  subst em
  have hday := h3.2.2.1
  have eC : SC.1 3 3 = H.1.2.1 := h1.1.2.1
  have eM : SM.2 17 0 0 = H.1.2.1 := h2.1.2.1
  rw [eC]
  by_cases big : H.1.2.1 + nI m ≤ 9999
  · rw [if_pos big]
    have hsum : (H.1.2.1 + nI m).toInt = H.1.2.1.toInt + m := by
      rw [add_sm hday.1 (by omega) (by rw [nI_toInt (by omega)]; omega) (by rw [nI_toInt (by omega)]; omega), nI_toInt (by omega)]
    have big2 : H.1.2.1.toInt + m ≤ 9999 := by
      have := Int32.le_iff_toInt_le.mp big
      rw [hsum] at this
      exact this
    obtain ⟨Z, hZ⟩ : ∃ Z, lsN H.2.1 m ((H.2.2.1, H.1), 0) = Z := ⟨_, rfl⟩
    obtain ⟨iZ, dZ⟩ := lsN_inv (L := H.2.1) m ((H.2.2.1, H.1), 0) h3.1 hday.1 (by show H.1.2.1.toInt + m ≤ _; omega)
    rw [hZ] at iZ dZ
    have dZ : Z.1.2.2.1.toInt = H.1.2.1.toInt + m := dZ
    have fin : ∀ SC1 SM1, FrD SC SC1 → SC1.1 1 7 = Z.1.1 → tbC SC1 3 Z.1.2 → FrE SM SM1 → SM1.2 17 0 2 = Z.1.1 → tbM SM1 Z.1.2 → Rel (c + 1) SC1 SM1 := by
      intro SC1 SM1 fC zC tC fM zM tM
      obtain ⟨b1, b2, b3, b4, b5, b6⟩ := h1
      obtain ⟨a1, a2, a4, a5, a6⟩ := h2
      have lC := fC.lw hLC
      refine R.work (fun o ho => ⟨fun k => fC.1 o k (by omega) (by omega), fun k => fC.2 o k (by omega) (by omega)⟩) ⟨lC.1.2.1, lC.1.2.2, lC.2.2.1, lC.2.2.2⟩ (fun k _ => by rw [fM.1]) (fun k hk => fM.2.1 17 k (by omega)) ⟨(Z.1.2, H.2.1, Z.1.1, H.2.2.2), ⟨tC, lC.1.1, lC.2.1, zC, ⟨by rw [fC.1 _ _ (by omega) (by omega)]; exact b5.1, fun j v hj => by rw [fC.2 _ _ (by omega) (by omega)]; exact b5.2 j v hj⟩, by rw [fC.1 _ _ (by omega) (by omega)]; exact b6.1, fun j v hj => by rw [fC.2 _ _ (by omega) (by omega)]; exact b6.2 j v hj⟩, ⟨tM, fM.lw a2, zM, ⟨by rw [fM.2.2 _ (by omega)]; exact a5.1, fun j v hj => by rw [fM.2.2 _ (by omega)]; exact a5.2 j v hj⟩, by rw [fM.2.2 _ (by omega)]; exact a6.1, fun j v hj => by rw [fM.2.2 _ (by omega)]; exact a6.2 j v hj⟩, iZ, h3.2.1, ⟨by show 0 ≤ Z.1.2.2.1.toInt; omega, by show Z.1.2.2.1.toInt ≤ 9999; omega⟩, h3.2.2.2⟩
    have mod : ∀ SC1, FrD SC SC1 → SC1.1 1 7 = Z.1.1 → tbC SC1 3 Z.1.2 → E_X7_loose (nI m) SM (RQ c SC1 Z.2) := by
      intro SC1 fC zC tC
      unfold E_X7_loose
      refine i_ok hw0 ?_
      rw [if_neg (by decide), c0, eM, if_pos big]
      refine ⟨v0, ?_⟩
      have key : ∀ (n i : Nat) (s : (Int32 × TB) × Int32) (S1 : St), i + n = m → InvT s.1.2 → FrE SM S1 → S1.2 17 0 2 = s.1.1 → tbM S1 s.1.2 → lsN H.2.1 n s = Z → L_X7_loose_40 (RQ c SC1 Z.2) (n + 1) (nI m) s.2 (nI i) S1 := by
        intro n
        induction n with
        | zero =>
          intro i s S1 hi hI hF e1 t1 he
          unfold L_X7_loose_40
          rw [if_pos (nI_le (by omega) (by omega))]
          have he : s = Z := he
          subst he
          exact ⟨rfl, fin SC1 S1 fC zC tC hF e1 t1⟩
        | succ n ih =>
          intro i s S1 hi hI hF e1 t1 he
          unfold L_X7_loose_40
          rw [if_neg (nI_ge (show i < m by omega) (by omega))]
          refine e_guests hI e1 t1 (fun S2 f2 e2 t2 => ?_)
          refine e_X7_draw e2 t2 (fun S3 f3 e3 t3 => ?_)
          rw [dwv_rem _ (x := 30) (N := 30) rfl (by decide) (by decide)]
          have hm := Nat.mod_lt (dwn (drw (gst s.1.1 s.1.2).1)) (show 0 < 30 by decide)
          refine e_aMeal (gst_inv hI).1 t3 (f3.lw (f2.lw (hF.lw h2.2.1))) h3.2.1 (by rw [nI_toInt (by omega)]; omega) (by rw [nI_toInt (by omega)]; omega) (fun S4 f4 t4 => ?_)
          simp only [nmI]
          rw [nI_1]
          refine ih (i + 1) (lsS H.2.1 s) S4 (by omega) (lsS_inv hI).1 (((hF.tr f2).tr f3).tr f4.e) ?_ t4 he
          rw [f4.2.2 _ (by omega)]
          exact e3
      exact ⟨m + 1, key m 0 ((H.2.2.1, H.1), 0) SM (by omega) h3.1 FrE.rf h2.2.2.1 h2.1 hZ⟩
    have key : ∀ (n i : Nat) (s : (Int32 × TB) × Int32) (S1 : St), i + n = m → InvT s.1.2 → FrD SC S1 → S1.1 1 7 = s.1.1 → tbC S1 3 s.1.2 → lsN H.2.1 n s = Z → L_X6_loose_41 (fun r SC1 => E_X7_loose (nI m) SM (RQ c SC1 r)) (n + 1) (nI m) s.2 (nI i) S1 := by
      intro n
      induction n with
      | zero =>
        intro i s S1 hi hI hF e1 t1 he
        unfold L_X6_loose_41
        rw [if_pos (nI_le (by omega) (by omega))]
        have he : s = Z := he
        subst he
        exact mod S1 hF e1 t1
      | succ n ih =>
        intro i s S1 hi hI hF e1 t1 he
        unfold L_X6_loose_41
        rw [if_neg (nI_ge (show i < m by omega) (by omega))]
        refine e_dineBy hI e1 t1 (hF.lw hLC) h3.2.1 (fun S2 f2 e2 t2 => ?_)
        simp only [nmI]
        rw [nI_1]
        exact ih (i + 1) (lsS H.2.1 s) S2 (by omega) (lsS_inv hI).1 (hF.tr f2) e2 t2 he
    exact ⟨m + 1, key m 0 ((H.2.2.1, H.1), 0) SC (by omega) h3.1 FrD.rf h1.2.2.2.1 h1.1 hZ⟩
  · rw [if_neg big]
    refine e_wrong 3 (by decide) rfl ?_
    unfold E_X7_loose
    refine i_ok hw0 ?_
    rw [if_neg (by decide), c0, eM, if_neg big]
    exact ⟨v0, e_error 3 (by decide) rfl ⟨rfl, (R.err 3 (by decide)).up⟩⟩
