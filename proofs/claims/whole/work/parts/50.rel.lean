/-! THE RELATION between the class's store and the reference's, behind c calls -/
abbrev HS : Type := TB × (List Int32 × List Int32) × Int32 × List Int32 × List Int32
def hsC (S : St) (h : Nat) (H : HS) : Prop := tbC S (h + 2) H.1 ∧ lwC S (4 + 2 * h) H.2.1.1 ∧ lwC S (5 + 2 * h) H.2.1.2 ∧ S.1 h 7 = H.2.2.1 ∧ (S.1 h 4 = nI H.2.2.2.1.length ∧ ∀ (j : Nat) (v : Int32), H.2.2.2.1[j]? = some v → S.2 h 3 j = v) ∧ (S.1 h 6 = nI H.2.2.2.2.length ∧ ∀ (j : Nat) (v : Int32), H.2.2.2.2[j]? = some v → S.2 h 5 j = v)
def hsM (S : St) (H : HS) : Prop := tbM S H.1 ∧ lawsM S H.2.1 ∧ S.2 17 0 2 = H.2.2.1 ∧ (S.2 17 0 3 = nI H.2.2.2.1.length ∧ ∀ (j : Nat) (v : Int32), H.2.2.2.1[j]? = some v → S.2 17 0 (303 + j) = v) ∧ (S.2 17 0 4 = nI H.2.2.2.2.length ∧ ∀ (j : Nat) (v : Int32), H.2.2.2.2[j]? = some v → S.2 17 0 (363 + j) = v)
def InvH (H : HS) : Prop := InvT H.1 ∧ wfL H.2.1 ∧ (0 ≤ H.1.2.1.toInt ∧ H.1.2.1.toInt ≤ 9999) ∧ H.2.2.2.1.length ≤ 60 ∧ H.2.2.2.2.length ≤ 24
/-- the kept row in the place of the row at work -/
def kM (S : St) : St := stR S 17 0 (S.2 17 1)
def rkept (c : Nat) (SC SM : St) : Prop := ∃ im : Nat, im ≤ c ∧ SC.1 0 8 = nI im ∧ SM.1 17 3 = nI im ∧ (im = 0 ∨ ∃ K, hsC SC 2 K ∧ hsM (kM SM) K ∧ InvH K)
def rerr (SC SM : St) : Prop := ∀ k, k < 7 → SC.2 0 7 k = SM.2 17 4 k
def rtr (SC SM : St) : Prop := ∃ tr : List Int32, tr.length ≤ 30 ∧ SC.1 12 1 = nI tr.length ∧ SM.1 17 14 = nI tr.length ∧ ∀ (j : Nat) (v : Int32), tr[j]? = some v → SC.2 12 0 j = v ∧ SM.2 17 15 j = v
def rsh (SC SM : St) : Prop := ∀ j, j < 4 → ∃ (b : Int32) (n : Nat), (b = 0 ∨ b = 8 ∨ b = 16 ∨ b = 32) ∧ n ≤ 24 ∧ SC.1 (13 + j) 0 = b ∧ SM.2 17 18 j = b ∧ SC.1 (13 + j) 1 = nI n ∧ SM.2 17 19 j = nI n ∧ ∀ i, i < 24 → SC.2 (13 + j) 2 i = SM.2 17 20 (24 * j + i)
def rcon (SC : St) : Prop := SC.1 6 0 = 999 ∧ SC.1 6 1 = 0 ∧ SC.1 7 0 = 1 ∧ SC.1 7 1 = 1
def Rel (c : Nat) (SC SM : St) : Prop := (∃ H, hsC SC 1 H ∧ hsM SM H ∧ InvH H) ∧ rcon SC ∧ rkept c SC SM ∧ rerr SC SM ∧ rtr SC SM ∧ rsh SC SM
/-- the end of a pair of calls -/
abbrev RQ (c : Nat) (SC1 : St) (r : Int32) : Int32 → St → Prop := fun r2 SM1 => r = r2 ∧ Rel (c + 1) SC1 SM1
theorem lawsC_of {S : St} {H : HS} (h : hsC S 1 H) (g : rcon S) : lawsC S H.2.1 := ⟨⟨h.2.1, g.1, g.2.1⟩, h.2.2.1, g.2.2.1, g.2.2.2⟩
theorem hsC_fr {S S1 : St} {h : Nat} {H : HS} (b : hsC S h H) (e : ∀ o, (o = h ∨ o = h + 2 ∨ o = 4 + 2 * h ∨ o = 5 + 2 * h) → (∀ k, S1.1 o k = S.1 o k) ∧ ∀ k, S1.2 o k = S.2 o k) : hsC S1 h H := by
  unfold hsC tbC lwC at *
  obtain ⟨a1, a2⟩ := e h (by omega)
  obtain ⟨b1, b2⟩ := e (h + 2) (by omega)
  obtain ⟨c1, c2⟩ := e (4 + 2 * h) (by omega)
  obtain ⟨d1, d2⟩ := e (5 + 2 * h) (by omega)
  simp only [a1, a2, b1, b2, c1, c2, d1, d2]
  exact b
theorem hsM_fr {S S1 : St} {H : HS} (b : hsM S H) (e : S1.2 17 0 = S.2 17 0) : hsM S1 H := by
  unfold hsM tbM lawsM lwM at *
  rw [e]
  exact b
theorem Rel.work0 {c : Nat} {SC SM SC1 SM1 : St} (R : Rel c SC SM) (hc : ∀ o, (o = 0 ∨ o = 2 ∨ o = 4 ∨ o = 8 ∨ o = 9 ∨ 12 ≤ o) → (∀ k, SC1.1 o k = SC.1 o k) ∧ ∀ k, SC1.2 o k = SC.2 o k) (h67 : rcon SC1) (hm1 : ∀ k, (k = 3 ∨ k = 14) → SM1.1 17 k = SM.1 17 k) (hm2 : ∀ k, (k = 1 ∨ k = 4 ∨ k = 15 ∨ k = 18 ∨ k = 19 ∨ k = 20) → SM1.2 17 k = SM.2 17 k) (hH : ∃ H, hsC SC1 1 H ∧ hsM SM1 H ∧ InvH H) : Rel c SC1 SM1 := by
  obtain ⟨-, -, ⟨im, k1, k2, k3, k4⟩, re, ⟨tr, t1, t2, t3, t4⟩, rs⟩ := R
  refine ⟨hH, h67, ⟨im, k1, by rw [(hc 0 (by omega)).1]; exact k2, by rw [hm1 3 (by omega)]; exact k3, k4.imp_right (fun ⟨K, a, b, d⟩ => ⟨K, hsC_fr a (fun o ho => hc o (by omega)), hsM_fr b (by rw [kM, st_same, kM, st_same, hm2 1 (by omega)]), d⟩)⟩, fun k hk => ?_, ⟨tr, t1, by rw [(hc 12 (by omega)).1]; exact t2, by rw [hm1 14 (by omega)]; exact t3, fun j v hj => ?_⟩, fun j hj => ?_⟩
  · rw [(hc 0 (by omega)).2, hm2 4 (by omega)]
    exact re k hk
  · rw [(hc 12 (by omega)).2, hm2 15 (by omega)]
    exact t4 j v hj
  · rw [(hc (13 + j) (by omega)).1, (hc (13 + j) (by omega)).1, hm2 18 (by omega), hm2 19 (by omega), hm2 20 (by omega), (hc (13 + j) (by omega)).2]
    exact rs j hj
theorem Rel.up {c : Nat} {SC SM : St} (R : Rel c SC SM) : Rel (c + 1) SC SM := by
  obtain ⟨h, g, ⟨im, k1, k2⟩, r⟩ := R
  exact ⟨h, g, ⟨im, by omega, k2⟩, r⟩
theorem Rel.work {c : Nat} {SC SM SC1 SM1 : St} (R : Rel c SC SM) (hc : ∀ o, (o = 0 ∨ o = 2 ∨ o = 4 ∨ o = 8 ∨ o = 9 ∨ 12 ≤ o) → (∀ k, SC1.1 o k = SC.1 o k) ∧ ∀ k, SC1.2 o k = SC.2 o k) (h67 : rcon SC1) (hm1 : ∀ k, (k = 3 ∨ k = 14) → SM1.1 17 k = SM.1 17 k) (hm2 : ∀ k, (k = 1 ∨ k = 4 ∨ k = 15 ∨ k = 18 ∨ k = 19 ∨ k = 20) → SM1.2 17 k = SM.2 17 k) (hH : ∃ H, hsC SC1 1 H ∧ hsM SM1 H ∧ InvH H) : Rel (c + 1) SC1 SM1 := (R.work0 hc h67 hm1 hm2 hH).up
def erC (S : St) (k : Nat) : St := stR S 0 7 (upd (S.2 0 7) k (S.2 0 7 k + 1))
def erM (S : St) (k : Nat) : St := stR S 17 4 (upd (S.2 17 4) k (S.2 17 4 k + 1))
theorem e_wrong {S : St} {Q : Int32 → St → Prop} (k : Nat) {x : Int32} (hk : k < 7) (hx : x = nI k) (h : Q ((-1000000000) - x) (erC S k)) : E_X6_wrong x S Q := by
  subst hx
  unfold E_X6_wrong
  rw [nI_clamp (by omega)]
  exact ⟨vp_in_nI (by omega) (by decide), vp_in_nI (by omega) (by decide), h⟩
theorem e_error {S : St} {Q : Int32 → St → Prop} (k : Nat) {x : Int32} (hk : k < 7) (hx : x = nI k) (h : Q ((-1000000000) - x) (erM S k)) : E_X7_error x S Q := by
  subst hx
  unfold E_X7_error
  rw [nI_clamp (by omega)]
  exact ⟨vp_in_nI (by omega) (by decide), vp_in_nI (by omega) (by decide), h⟩
theorem Rel.err {c : Nat} {SC SM : St} (R : Rel c SC SM) (k : Nat) (hk : k < 7) : Rel c (erC SC k) (erM SM k) := by
  obtain ⟨⟨H, h1, h2, h3⟩, h67, ⟨im, k1, k2, k3, k4⟩, re, ⟨tr, t1, t2, t3, t4⟩, rs⟩ := R
  have eC : ∀ o, o ≠ 0 → (∀ j, (erC SC k).1 o j = SC.1 o j) ∧ ∀ j, (erC SC k).2 o j = SC.2 o j := fun o ho => ⟨fun _ => rfl, fun j => st_ne (by omega)⟩
  have eM : ∀ j, j ≠ 4 → (erM SM k).2 17 j = SM.2 17 j := fun j hj => st_ne (by omega)
  refine ⟨⟨H, hsC_fr h1 (fun o ho => eC o (by omega)), hsM_fr h2 (eM 0 (by omega)), h3⟩, h67, ⟨im, k1, k2, k3, k4.imp_right (fun ⟨K, a, b, d⟩ => ⟨K, hsC_fr a (fun o ho => eC o (by omega)), hsM_fr b (by rw [kM, st_same, kM, st_same, eM 1 (by omega)]), d⟩)⟩, fun j hj => ?_, ⟨tr, t1, t2, t3, fun j v hj => ?_⟩, fun j hj => ?_⟩
  · unfold erC erM
    rw [st_same, st_same]
    unfold upd
    rw [re k hk, re j hj]
  · rw [(eC 12 (by omega)).2, eM 15 (by omega)]
    exact t4 j v hj
  · rw [(eC (13 + j) (by omega)).1, (eC (13 + j) (by omega)).1, eM 18 (by omega), eM 19 (by omega), eM 20 (by omega), (eC (13 + j) (by omega)).2]
    exact rs j hj
theorem win (x a b : Int32) : (x < a ∨ b < x) ∨ (¬ x < a ∧ ¬ b < x) := by
  by_cases h1 : x < a
  · exact Or.inl (Or.inl h1)
  · by_cases h2 : b < x
    · exact Or.inl (Or.inr h2)
    · exact Or.inr ⟨h1, h2⟩
theorem win_nI {x b : Int32} {m : Nat} (hb : b = nI m) (hm : m < 2 ^ 31) (h : ¬ x < 0 ∧ ¬ b < x) : ∃ j, j ≤ m ∧ x = nI j := by
  subst hb
  exact nI_of2 (nI_toInt hm) h.1 (Int32.not_lt.mp h.2)
theorem w_ok {S : St} {Q : Int32 → St → Prop} {x a b : Int32} (h : ¬ x < a ∧ ¬ b < x) (q : Q 1 S) : E_X6_within x a b S Q := by unfold E_X6_within; rw [if_neg h.1, if_neg h.2]; exact q
theorem w_no {S : St} {Q : Int32 → St → Prop} {x a b : Int32} (h : x < a ∨ b < x) (q : Q 0 S) : E_X6_within x a b S Q := by
  unfold E_X6_within
  by_cases h1 : x < a
  · rw [if_pos h1]; exact q
  · rw [if_neg h1, if_pos (h.resolve_left h1)]; exact q
theorem i_ok {S : St} {Q : Int32 → St → Prop} {x a b : Int32} (h : ¬ x < a ∧ ¬ b < x) (q : Q 1 S) : E_X7_in x a b S Q := by unfold E_X7_in; rw [if_neg h.1, if_neg h.2]; exact q
theorem i_no {S : St} {Q : Int32 → St → Prop} {x a b : Int32} (h : x < a ∨ b < x) (q : Q 0 S) : E_X7_in x a b S Q := by
  unfold E_X7_in
  by_cases h1 : x < a
  · rw [if_pos h1]; exact q
  · rw [if_neg h1, if_pos (h.resolve_left h1)]; exact q
theorem km_ok {S : St} {Q : Int32 → St → Prop} {x : Int32} (h : ¬ x < 0 ∧ ¬ 69 < x) (q : Q 1 S) : E_X6_isKm x S Q := w_ok h ⟨Or.inr rfl, q⟩
theorem km_no {S : St} {Q : Int32 → St → Prop} {x : Int32} (h : x < 0 ∨ 69 < x) (q : Q 0 S) : E_X6_isKm x S Q := w_no h ⟨Or.inl rfl, q⟩
theorem kn_ok {S : St} {Q : Int32 → St → Prop} {x : Int32} (h : ¬ x < 0 ∧ ¬ 69 < x) (q : Q 1 S) : E_X7_isKind x S Q := i_ok h ⟨Or.inr rfl, q⟩
theorem kn_no {S : St} {Q : Int32 → St → Prop} {x : Int32} (h : x < 0 ∨ 69 < x) (q : Q 0 S) : E_X7_isKind x S Q := i_no h ⟨Or.inl rfl, q⟩
theorem hc_ok {S : St} {Q : Int32 → St → Prop} {x : Int32} (h : ¬ x < 0 ∧ ¬ 99 < x) (q : Q 1 S) : E_X6_isHunger x S Q := w_ok h ⟨Or.inr rfl, q⟩
theorem hc_no {S : St} {Q : Int32 → St → Prop} {x : Int32} (h : x < 0 ∨ 99 < x) (q : Q 0 S) : E_X6_isHunger x S Q := w_no h ⟨Or.inl rfl, q⟩
theorem hm_ok {S : St} {Q : Int32 → St → Prop} {x : Int32} (h : ¬ x < 0 ∧ ¬ 99 < x) (q : Q 1 S) : E_X7_isHunger x S Q := i_ok h ⟨Or.inr rfl, q⟩
theorem hm_no {S : St} {Q : Int32 → St → Prop} {x : Int32} (h : x < 0 ∨ 99 < x) (q : Q 0 S) : E_X7_isHunger x S Q := i_no h ⟨Or.inl rfl, q⟩
theorem has_ok {S : St} {Q : Int32 → St → Prop} {t d N : Nat} (hN : S.1 t 2 = nI N) (h9 : N ≤ 9) (hd : d < N) (q : Q 1 S) : E_X4_has t (nI d) S Q := by
  unfold E_X4_has
  rw [if_neg (nI_pos (by omega)), hN, if_neg (nI_ge hd (by omega))]
  exact q
theorem has_no {S : St} {Q : Int32 → St → Prop} {t N : Nat} {x : Int32} (hN : S.1 t 2 = nI N) (h : x < 0 ∨ nI N ≤ x) (q : Q 0 S) : E_X4_has t x S Q := by
  unfold E_X4_has
  by_cases h1 : x < 0
  · rw [if_pos h1]; exact q
  · rw [if_neg h1, hN, if_pos (h.resolve_left h1)]; exact q
theorem nI_m1 {N : Nat} {x : Int32} (h9 : N < 2 ^ 31) : (nI N - 1 < x) ↔ nI N ≤ x := by
  have e1 := nI_toInt h9
  have e2 : (nI N - 1).toInt = (N : Int) - 1 := by
    rw [Jvm.Kit.i32_sub (by rw [e1, show (1 : Int32).toInt = 1 by decide]; omega) (by rw [e1, show (1 : Int32).toInt = 1 by decide]; omega), e1, show (1 : Int32).toInt = 1 by decide]
  rw [Int32.lt_iff_toInt_lt, Int32.le_iff_toInt_le, e1, e2]
  omega
theorem dis_ok {S : St} {Q : Int32 → St → Prop} {d N : Nat} (hN : S.2 17 0 5 = nI N) (h9 : N ≤ 9) (hd : d < N) (q : Q 1 S) : E_X7_isDish (nI d) S Q := by
  unfold E_X7_isDish
  rw [show (5 : Int32).toNatClampNeg = 5 by decide, hN]
  exact ⟨vp_in_nI (n := 5) (by decide) (by decide), i_ok ⟨nI_pos (by omega), fun e => nI_ge hd (by omega) ((nI_m1 (by omega)).mp e)⟩ ⟨Or.inr rfl, q⟩⟩
theorem dis_no {S : St} {Q : Int32 → St → Prop} {N : Nat} {x : Int32} (hN : S.2 17 0 5 = nI N) (h9 : N ≤ 9) (h : x < 0 ∨ nI N ≤ x) (q : Q 0 S) : E_X7_isDish x S Q := by
  unfold E_X7_isDish
  rw [show (5 : Int32).toNatClampNeg = 5 by decide, hN]
  exact ⟨vp_in_nI (n := 5) (by decide) (by decide), i_no (h.imp_right (fun e => (nI_m1 (by omega)).mpr e)) ⟨Or.inl rfl, q⟩⟩
/-- a table's new view: the rest of the house as it was -/
theorem hsC_T {S S1 : St} {H : HS} {T1 : TB} (b : hsC S 1 H) (hF : FrT 3 S S1) (hT : tbC S1 3 T1) : hsC S1 1 (T1, H.2) := by
  obtain ⟨-, b2, b3, b4, b5, b6⟩ := b
  refine ⟨hT, ?_, ?_, ?_, ?_, ?_⟩
  · unfold lwC at *; rw [hF.1 _ _ (by omega), hF.2 _ _ (by omega) (by omega)]; exact b2
  · unfold lwC at *; rw [hF.1 _ _ (by omega), hF.2 _ _ (by omega) (by omega)]; exact b3
  · rw [hF.1 _ _ (by omega)]; exact b4
  · rw [hF.1 _ _ (by omega), hF.2 _ _ (by omega) (by omega)]; exact b5
  · rw [hF.1 _ _ (by omega), hF.2 _ _ (by omega) (by omega)]; exact b6
theorem hsC_5 {S S1 : St} {H : HS} (b : hsC S 1 H) (hF : FrT 5 S S1) : hsC S1 1 H := by
  obtain ⟨b1, b2, b3, b4, b5, b6⟩ := b
  refine ⟨?_, ?_, ?_, ?_, ?_, ?_⟩
  · refine ⟨by rw [hF.1 _ _ (by omega)]; exact b1.1, by rw [hF.1 _ _ (by omega)]; exact b1.2.1, by rw [hF.1 _ _ (by omega)]; exact b1.2.2.1, fun w d hw hd => by rw [hF.2 _ _ (by omega) (by omega)]; exact b1.2.2.2 w d hw hd⟩
  · unfold lwC at *; rw [hF.1 _ _ (by omega), hF.2 _ _ (by omega) (by omega)]; exact b2
  · unfold lwC at *; rw [hF.1 _ _ (by omega), hF.2 _ _ (by omega) (by omega)]; exact b3
  · rw [hF.1 _ _ (by omega)]; exact b4
  · rw [hF.1 _ _ (by omega), hF.2 _ _ (by omega) (by omega)]; exact b5
  · rw [hF.1 _ _ (by omega), hF.2 _ _ (by omega) (by omega)]; exact b6
theorem hsM_T {S S1 : St} {H : HS} {T1 : TB} (b : hsM S H) (h1 : InvH H) (hF : FrM S S1) (hT : tbM S1 T1) : hsM S1 (T1, H.2) := by
  obtain ⟨-, b2, b3, b4, b5⟩ := b
  refine ⟨hT, hF.lw b2, by rw [hF.2.2 _ (by omega)]; exact b3, ⟨by rw [hF.2.2 _ (by omega)]; exact b4.1, fun j v hj => by rw [hF.2.2 _ (by omega)]; exact b4.2 j v hj⟩, by rw [hF.2.2 _ (by omega)]; exact b5.1, fun j v hj => by rw [hF.2.2 _ (by omega)]; exact b5.2 j v hj⟩
theorem rcon_T {S S1 : St} {t : Nat} (ht : t = 3 ∨ t = 5) (g : rcon S) (hF : FrT t S S1) : rcon S1 := by
  unfold rcon at *
  rw [hF.1 _ _ (by omega), hF.1 _ _ (by omega), hF.1 _ _ (by omega), hF.1 _ _ (by omega)]
  exact g
/-- a pair of calls that worked upon the table alone -/
theorem Rel.tab {c : Nat} {SC SM SC1 SM1 : St} {H : HS} {T1 : TB} (R : Rel c SC SM) (h1 : hsC SC 1 H) (h2 : hsM SM H) (h3 : InvH H) (fC : FrT 3 SC SC1) (fM : FrM SM SM1) (tC : tbC SC1 3 T1) (tM : tbM SM1 T1) (iT : InvT T1) (iD : 0 ≤ T1.2.1.toInt ∧ T1.2.1.toInt ≤ 9999) : Rel (c + 1) SC1 SM1 :=
  R.work (fun o ho => ⟨fun k => fC.1 o k (by omega), fun k => fC.2 o k (by omega) (by omega)⟩) (rcon_T (Or.inl rfl) R.2.1 fC) (fun k _ => by rw [fM.1]) (fun k hk => fM.2.1 17 k (by omega)) ⟨(T1, H.2), hsC_T h1 fC tC, hsM_T h2 h3 fM tM, iT, h3.2.1, iD, h3.2.2.2⟩
/-- a pair of calls that left the house as it was -/
theorem Rel.same0 {c : Nat} {SC SM SC1 SM1 : St} {t : Nat} (R : Rel c SC SM) (ht : t = 3 ∨ t = 5) (fC : FrC t SC SC1) (fM : FrG SM SM1) : Rel c SC1 SM1 := by
  obtain ⟨H, h1, h2, h3⟩ := R.1
  refine R.work0 (fun o ho => ⟨fun k => by rw [fC.1], fun k => fC.2 o k (by omega) (by omega)⟩) (by unfold rcon; rw [fC.1]; exact R.2.1) (fun k _ => by rw [fM.1]) (fun k hk => fM.2 17 k (by omega)) ⟨H, ?_, hsM_fr h2 (fM.2 17 0 (by omega)), h3⟩
  rcases ht with rfl | rfl
  · exact hsC_T h1 fC.t (fC.tb (Or.inl rfl) h1.1)
  · exact hsC_5 h1 fC.t
theorem Rel.same {c : Nat} {SC SM SC1 SM1 : St} {t : Nat} (R : Rel c SC SM) (ht : t = 3 ∨ t = 5) (fC : FrC t SC SC1) (fM : FrG SM SM1) : Rel (c + 1) SC1 SM1 := (R.same0 ht fC fM).up
