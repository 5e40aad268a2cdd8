/-! VIEWS: a table (how many dishes, DAY, HUNGRY, and of dish d: 0 KIND, 1 m, 2 SIZE, 3 AGE, 4 FLAVOUR), a text; on both sides. -/
abbrev TB : Type := Nat × Int32 × Int32 × (Nat → Nat → Int32)
def tbC (S : St) (t : Nat) (T : TB) : Prop := S.1 t 2 = nI T.1 ∧ S.1 t 3 = T.2.1 ∧ S.1 t 4 = T.2.2.1 ∧ ∀ w d, w < 5 → d < T.1 → S.2 t (5 + w) d = T.2.2.2 w d
def tbM (S : St) (T : TB) : Prop := S.2 17 0 5 = nI T.1 ∧ S.2 17 0 0 = T.2.1 ∧ S.2 17 0 1 = T.2.2.1 ∧ ∀ w d, w < 5 → d < T.1 → S.2 17 0 (8 + 5 * d + w) = T.2.2.2 w d
def lwC (S : St) (l : Nat) (ts : List Int32) : Prop := S.1 l 4 = nI ts.length ∧ ∀ (j : Nat) (t : Int32), ts[j]? = some t → S.2 l 2 j = t
def lwM (S : St) (u : Nat) (ts : List Int32) : Prop := S.2 17 0 (53 + 125 * u) = nI ts.length ∧ ∀ (j : Nat) (t : Int32), ts[j]? = some t → S.2 17 0 (53 + 125 * u + 1 + 2 * j) = prW t ∧ S.2 17 0 (53 + 125 * u + 2 + 2 * j) = prV u t
def wfT (ts : List Int32) : Prop := ts.length ≤ 60 ∧ (ts = [] ∨ dpk ts 0)
/-- the laws that the class's tables go by: 6 CLAIM, 7 KEEPING -/
def lawsC (S : St) (L : List Int32 × List Int32) : Prop := (lwC S 6 L.1 ∧ S.1 6 0 = 999 ∧ S.1 6 1 = 0) ∧ (lwC S 7 L.2 ∧ S.1 7 0 = 1 ∧ S.1 7 1 = 1)
def lawsM (S : St) (L : List Int32 × List Int32) : Prop := lwM S 0 L.1 ∧ lwM S 1 L.2
def wfL (L : List Int32 × List Int32) : Prop := wfT L.1 ∧ wfT L.2
/-- but for the piles of the two laws -/
def FrK (S S1 : St) : Prop := S1.1 = S.1 ∧ ∀ o k, ¬ (k = 3 ∧ (o = 6 ∨ o = 7)) → S1.2 o k = S.2 o k
/-- but for the piles and a table's row of claims -/
def FrC (t : Nat) (S S1 : St) : Prop := S1.1 = S.1 ∧ ∀ o k, ¬ (k = 3 ∧ (o = 6 ∨ o = 7)) → ¬ (o = t ∧ k = 10) → S1.2 o k = S.2 o k
/-- but for the reference's rows 'named', 'pile', 'claims', 'mayBe' -/
def FrG (S S1 : St) : Prop := S1.1 = S.1 ∧ ∀ o k, ¬ (o = 17 ∧ 10 ≤ k ∧ k ≤ 13) → S1.2 o k = S.2 o k
/-- but for the reference's rows 'named', 'pile' -/
def FrN (S S1 : St) : Prop := S1.1 = S.1 ∧ ∀ o k, ¬ (o = 17 ∧ 10 ≤ k ∧ k ≤ 11) → S1.2 o k = S.2 o k
theorem FrN.rf {S : St} : FrN S S := ⟨rfl, fun _ _ _ => rfl⟩
theorem FrN.tr {S S1 S2 : St} (h : FrN S S1) (g : FrN S1 S2) : FrN S S2 := ⟨g.1.trans h.1, fun o k q => (g.2 o k q).trans (h.2 o k q)⟩
theorem FrN.row {S : St} {k : Nat} {f : Nat → Int32} (h1 : 10 ≤ k) (h2 : k ≤ 11) : FrN S (stR S 17 k f) := ⟨rfl, fun o k' q => st_ne (fun e => q ⟨e.1, by omega, by omega⟩)⟩
theorem FrN.g {S S1 : St} (h : FrN S S1) : FrG S S1 := ⟨h.1, fun o k q => h.2 o k (fun e => q ⟨e.1, e.2.1, by omega⟩)⟩
theorem FrK.rf {S : St} : FrK S S := ⟨rfl, fun _ _ _ => rfl⟩
theorem FrC.rf {t : Nat} {S : St} : FrC t S S := ⟨rfl, fun _ _ _ _ => rfl⟩
theorem FrG.rf {S : St} : FrG S S := ⟨rfl, fun _ _ _ => rfl⟩
theorem FrK.tr {S S1 S2 : St} (h : FrK S S1) (g : FrK S1 S2) : FrK S S2 := ⟨g.1.trans h.1, fun o k q => (g.2 o k q).trans (h.2 o k q)⟩
theorem FrC.tr {t : Nat} {S S1 S2 : St} (h : FrC t S S1) (g : FrC t S1 S2) : FrC t S S2 := ⟨g.1.trans h.1, fun o k q q2 => (g.2 o k q q2).trans (h.2 o k q q2)⟩
theorem FrG.tr {S S1 S2 : St} (h : FrG S S1) (g : FrG S1 S2) : FrG S S2 := ⟨g.1.trans h.1, fun o k q => (g.2 o k q).trans (h.2 o k q)⟩
theorem FrK.c {t : Nat} {S S1 : St} (h : FrK S S1) : FrC t S S1 := ⟨h.1, fun o k q _ => h.2 o k q⟩
theorem FrC.row {t : Nat} {S : St} {f : Nat → Int32} : FrC t S (stR S t 10 f) := ⟨rfl, fun _ _ _ q => st_ne q⟩
theorem FrG.row {S : St} {k : Nat} {f : Nat → Int32} (h1 : 10 ≤ k) (h2 : k ≤ 13) : FrG S (stR S 17 k f) := ⟨rfl, fun o k' q => st_ne (fun e => q ⟨e.1, by omega, by omega⟩)⟩
theorem FrC.tb {t : Nat} {S S1 : St} {T : TB} (ht : t = 3 ∨ t = 5) (h : FrC t S S1) (b : tbC S t T) : tbC S1 t T := by
  refine ⟨by rw [h.1]; exact b.1, by rw [h.1]; exact b.2.1, by rw [h.1]; exact b.2.2.1, fun w d hw hd => ?_⟩
  rw [h.2 _ _ (by omega) (by omega)]
  exact b.2.2.2 w d hw hd
theorem FrC.lw {t : Nat} {S S1 : St} {L : List Int32 × List Int32} (ht : t = 3 ∨ t = 5) (h : FrC t S S1) (b : lawsC S L) : lawsC S1 L := by
  unfold lawsC lwC at *
  rw [h.1, h.2 6 2 (by omega) (by omega), h.2 7 2 (by omega) (by omega)]
  exact b
theorem FrG.tb {S S1 : St} {T : TB} (h : FrG S S1) (b : tbM S T) : tbM S1 T := by
  unfold tbM at *
  rw [h.2 17 0 (by omega)]
  exact b
theorem FrG.lw {S S1 : St} {L : List Int32 × List Int32} (h : FrG S S1) (b : lawsM S L) : lawsM S1 L := by
  unfold lawsM lwM at *
  rw [h.2 17 0 (by omega)]
  exact b
/-- what a text gives, before it is held -/
def raw (w0 : Int32) (ts : List Int32) (a b c : Int32) : Int32 := if ts = [] then w0 else (evA a b c ts (fun _ => 0) 0).1 0
def near (a b : Int32) : Int32 := if 0 ≤ lg_cmp (if 0 < a.toInt64 - b.toInt64 then a.toInt64 - b.toInt64 else -(a.toInt64 - b.toInt64)) 2 then 0 else 1
def clm (tc : List Int32) (a b c : Int32) : Int32 := hld 999 (raw a tc a b c)
def kpn (tk : List Int32) (a b c : Int32) : Int32 := hld 1 (raw (near a b) tk a b c)
theorem e_gives {o : Nat} {ts : List Int32} {a b c w0 m : Int32} {S : St} {Q : Int32 → St → Prop} (hm : 0 ≤ m.toInt) (hw : ∀ R : Int32 → St → Prop, R w0 S → E_X1_withoutText o a b S R) (h0 : S.1 o 0 = m) (hL : lwC S o ts) (hwf : wfT ts) (hQ : ∀ g, Q (hld m (raw w0 ts a b c)) (stR S o 3 g)) : E_X1_gives o a b c S Q := by
  unfold E_X1_gives
  refine hw _ ?_
  refine ⟨vp_in_nI (n := 0) (by decide) (by decide), ?_⟩
  simp only [nmS]
  rw [show (0 : Int32).toNatClampNeg = 0 by decide]
  rcases hwf.2 with rfl | hk
  · refine ⟨1, ?_⟩
    unfold L_X1_gives_18
    rw [if_pos (by rw [st_int, hL.1]; decide)]
    refine ⟨vp_in_nI (n := 0) (by decide) (by decide), ?_⟩
    have e := hQ (upd (S.2 o 3) 0 w0)
    rw [← mmx_hld hm] at e
    simp only [raw, if_true] at e
    unfold mmx at e
    rw [show (0 : Int32).toNatClampNeg = 0 by decide, st_same, st_int, h0]
    rw [show upd (S.2 o 3) 0 w0 0 = w0 from pk_us]
    exact e
  · refine gives_loop hwf.1 ts 0 0 _ rfl (by simp) hL.1 (fun j t hj => ?_) hk (Nat.le_refl _) ?_
    · rw [st_ne (by omega)]
      exact hL.2 j t hj
    · rw [st_st, st_int, h0, mmx_hld hm]
      have hne : ts ≠ [] := fun e => by rw [e] at hk; exact absurd (show (0 : Nat) = 1 from hk) (by decide)
      have e := hQ ((evA a b c ts (upd (S.2 o 3) 0 w0) 0).1)
      rw [raw, if_neg hne] at e
      rw [evA_congr ts _ (fun _ => 0) 0 hk (fun j hj => absurd hj (by omega)), st_same]
      exact e
theorem e_gives6 {L : List Int32 × List Int32} {a b c : Int32} {S : St} {Q : Int32 → St → Prop} (hL : lawsC S L) (hwf : wfL L) (hQ : ∀ S1, FrK S S1 → Q (clm L.1 a b c) S1) : E_X1_gives 6 a b c S Q :=
  e_gives (m := 999) (w0 := a) (by decide) (fun R hR => by unfold E_X1_withoutText; rw [if_pos hL.1.2.2]; exact hR) hL.1.2.1 hL.1.1 hwf.1 (fun g => hQ _ ⟨rfl, fun o k q => st_ne (fun e => q ⟨e.2, Or.inl e.1⟩)⟩)
theorem e_gives7 {L : List Int32 × List Int32} {a b c : Int32} {S : St} {Q : Int32 → St → Prop} (hL : lawsC S L) (hwf : wfL L) (hQ : ∀ S1, FrK S S1 → Q (kpn L.2 a b c) S1) : E_X1_gives 7 a b c S Q :=
  e_gives (m := 1) (w0 := near a b) (by decide) (fun R hR => by
    unfold E_X1_withoutText
    rw [if_neg (by rw [hL.2.2.2]; decide)]
    unfold near at hR
    by_cases h : 0 ≤ lg_cmp (if 0 < a.toInt64 - b.toInt64 then a.toInt64 - b.toInt64 else -(a.toInt64 - b.toInt64)) 2
    · rw [if_pos h] at hR
      rw [if_pos h]
      exact hR
    · rw [if_neg h] at hR
      rw [if_neg h]
      exact hR) hL.2.2.1 hL.2.1 hwf.2 (fun g => hQ _ ⟨rfl, fun o k q => st_ne (fun e => q ⟨e.2, Or.inr e.1⟩)⟩)
theorem e_held {v m : Int32} {S : St} {Q : Int32 → St → Prop} (h : Q (hld m v) S) : E_X7_held v 0 m S Q := by
  unfold E_X7_held
  unfold hld at h
  split
  · rename_i h1
    rw [if_pos h1] at h
    split
    · rename_i h2; rw [if_pos h2] at h; exact h
    · rename_i h2; rw [if_neg h2] at h; exact h
  · rename_i h1
    rw [if_neg h1] at h
    exact h
theorem e_hasText {u : Nat} (hu : u < 2) {ts : List Int32} {S : St} {Q : Int32 → St → Prop} {x : Int32} (hx : x = nI u) (hL : lwM S u ts) (hl : ts.length ≤ 60) (h : Q (if ts = [] then 0 else 1) S) : E_X7_hasText x S Q := by
  subst hx
  unfold E_X7_hasText
  rw [show (53 : Int32) + 125 * nI u = nI (53 + 125 * u) by rw [show (125 : Int32) = nI 125 from rfl, pk_mul, show (53 : Int32) = nI 53 from rfl, nI_add]]
  rw [nI_clamp (by omega), hL.1]
  refine ⟨vp_in_nI (by omega) (by decide), ?_⟩
  by_cases e : ts = []
  · rw [if_pos e] at h
    subst e
    rw [if_pos (by decide)]
    exact h
  · rw [if_neg e] at h
    have hp : 0 < ts.length := List.length_pos_iff.mpr e
    rw [if_neg (nI_nle hp (by omega))]
    exact h
theorem e_worked {u : Nat} (hu : u < 2) {ts : List Int32} {a b c : Int32} {S : St} {Q : Int32 → St → Prop} {x : Int32} (hx : x = nI u) (hL : lwM S u ts) (hwf : wfT ts) (hne : ts ≠ []) (ha : S.2 17 10 (nmB u 0) = a) (hb : S.2 17 10 (nmB u 1) = b) (hc : S.2 17 10 (nmB u 2) = c) (h : ∀ w0 g, Q (raw w0 ts a b c) (stR S 17 11 g)) : E_X7_worked x S Q := by
  subst hx
  unfold E_X7_worked
  rw [show (53 : Int32) + 125 * nI u = nI (53 + 125 * u) by rw [show (125 : Int32) = nI 125 from rfl, pk_mul, show (53 : Int32) = nI 53 from rfl, nI_add]]
  have hk := hwf.2.resolve_left hne
  refine worked_loop hu hwf.1 ts 0 0 S rfl (by simp) hL.1 hL.2 ha hb hc hk (Nat.le_refl _) ?_
  have e := h 0 (evA a b c ts (S.2 17 11) 0).1
  rw [raw, if_neg hne] at e
  rw [evA_congr ts _ (fun _ => 0) 0 hk (fun j hj => absurd hj (by omega))]
  exact e
theorem e_claimTold {L : List Int32 × List Int32} {a b c : Int32} {S : St} {Q : Int32 → St → Prop} (hL : lawsM S L) (hwf : wfL L) (hQ : ∀ S1, FrN S S1 → Q (clm L.1 a b c) S1) : E_X7_claimTold a b c S Q := by
  unfold E_X7_claimTold
  refine ⟨vp_in_nI (n := 99) (by decide) (by decide), ?_⟩
  simp only [nmS]
  refine ⟨vp_in_nI (n := 97) (by decide) (by decide), vp_in_nI (n := 115) (by decide) (by decide), ?_⟩
  simp only [st_same, st_st]
  rw [show (99 : Int32).toNatClampNeg = 99 by decide, show (97 : Int32).toNatClampNeg = 97 by decide, show (115 : Int32).toNatClampNeg = 115 by decide]
  have hF : FrN S (stR S 17 10 (upd (upd (upd (S.2 17 10) 99 a) 97 b) 115 c)) := FrN.row (by decide) (by decide)
  have hL1 := (hF.g.lw hL).1
  refine e_hasText (u := 0) (by decide) rfl hL1 hwf.1.1 ?_
  by_cases e : L.1 = []
  · rw [if_pos e, if_pos rfl]
    refine e_held ?_
    have := hQ _ hF
    unfold clm raw at this
    rw [if_pos e] at this
    exact this
  · rw [if_neg e, if_neg (by decide)]
    refine e_worked (u := 0) (a := a) (b := b) (c := c) (by decide) rfl hL1 hwf.1 e (by rw [st_same]; rfl) (by rw [st_same]; rfl) (by rw [st_same]; rfl) (fun w0 g => e_held ?_)
    have := hQ _ (hF.tr (FrN.row (k := 11) (f := g) (by decide) (by decide)))
    unfold clm raw at this
    unfold raw
    rw [if_neg e] at this ⊢
    exact this
