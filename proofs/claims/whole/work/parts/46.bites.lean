/-! THE BITES on both sides -/
def tS (T : TB) (sz : Nat → Int32) : TB := (T.1, T.2.1, T.2.2.1, fun w d => if w = 2 then sz d else T.2.2.2 w d)
def tF (T : TB) (w d : Nat) (v : Int32) : TB := (T.1, T.2.1, T.2.2.1, fun w' d' => if w' = w ∧ d' = d then v else T.2.2.2 w' d')
/-- but for a table's SIZES, AGES and claims, its DAY and HUNGRY, and the piles -/
def FrT (t : Nat) (S S1 : St) : Prop := (∀ o k, ¬ (o = t ∧ (k = 3 ∨ k = 4)) → S1.1 o k = S.1 o k) ∧ ∀ o k, ¬ (k = 3 ∧ (o = 6 ∨ o = 7)) → ¬ (o = t ∧ (k = 7 ∨ k = 8 ∨ k = 10)) → S1.2 o k = S.2 o k
def FrM (S S1 : St) : Prop := S1.1 = S.1 ∧ (∀ o k, ¬ (o = 17 ∧ (k = 0 ∨ (10 ≤ k ∧ k ≤ 13))) → S1.2 o k = S.2 o k) ∧ ∀ i, (i = 2 ∨ i = 3 ∨ i = 4 ∨ 53 ≤ i) → S1.2 17 0 i = S.2 17 0 i
theorem FrT.rf {t : Nat} {S : St} : FrT t S S := ⟨fun _ _ _ => rfl, fun _ _ _ _ => rfl⟩
theorem FrM.rf {S : St} : FrM S S := ⟨rfl, fun _ _ _ => rfl, fun _ _ => rfl⟩
theorem FrT.tr {t : Nat} {S S1 S2 : St} (h : FrT t S S1) (g : FrT t S1 S2) : FrT t S S2 := ⟨fun o k q => (g.1 o k q).trans (h.1 o k q), fun o k q q2 => (g.2 o k q q2).trans (h.2 o k q q2)⟩
theorem FrM.tr {S S1 S2 : St} (h : FrM S S1) (g : FrM S1 S2) : FrM S S2 := ⟨g.1.trans h.1, fun o k q => (g.2.1 o k q).trans (h.2.1 o k q), fun i q => (g.2.2 i q).trans (h.2.2 i q)⟩
theorem FrC.t {t : Nat} {S S1 : St} (h : FrC t S S1) : FrT t S S1 := ⟨fun o k _ => by rw [h.1], fun o k q q2 => h.2 o k q (fun e => q2 ⟨e.1, Or.inr (Or.inr e.2)⟩)⟩
theorem FrG.m {S S1 : St} (h : FrG S S1) : FrM S S1 := ⟨h.1, fun o k q => h.2 o k (fun e => q ⟨e.1, Or.inr e.2⟩), fun i _ => by rw [h.2 17 0 (by omega)]⟩
theorem FrT.row {t k : Nat} {S : St} {f : Nat → Int32} (hk : k = 7 ∨ k = 8 ∨ k = 10) : FrT t S (stR S t k f) := ⟨fun _ _ _ => rfl, fun _ _ _ q => st_ne (fun e => q ⟨e.1, by rw [e.2]; exact hk⟩)⟩
theorem FrT.int {t k : Nat} {S : St} {v : Int32} (hk : k = 3 ∨ k = 4) : FrT t S (stI S t k v) := ⟨fun _ _ q => sI_ne (fun e => q ⟨e.1, by rw [e.2]; exact hk⟩), fun _ _ _ _ => rfl⟩
theorem FrM.row {k : Nat} {S : St} {f : Nat → Int32} (h1 : 10 ≤ k) (h2 : k ≤ 13) : FrM S (stR S 17 k f) := (FrG.row h1 h2).m
theorem FrM.set {S : St} {i : Nat} {v : Int32} (hi : i < 53 ∧ i ≠ 2 ∧ i ≠ 3 ∧ i ≠ 4) : FrM S (stR S 17 0 (upd (S.2 17 0) i v)) := ⟨rfl, fun o k q => st_ne (fun e => q ⟨e.1, Or.inl e.2⟩), fun j hj => by rw [st_same, pk_un (by omega)]⟩
theorem FrT.lw {t : Nat} {S S1 : St} {L : List Int32 × List Int32} (ht : t = 3 ∨ t = 5) (h : FrT t S S1) (b : lawsC S L) : lawsC S1 L := by
  unfold lawsC lwC at *
  rw [h.1 6 4 (by omega), h.1 6 0 (by omega), h.1 6 1 (by omega), h.1 7 4 (by omega), h.1 7 0 (by omega), h.1 7 1 (by omega), h.2 6 2 (by omega) (by omega), h.2 7 2 (by omega) (by omega)]
  exact b
theorem FrM.lw {S S1 : St} {L : List Int32 × List Int32} (h : FrM S S1) (b : lawsM S L) : lawsM S1 L := by
  obtain ⟨⟨b1, b2⟩, b3, b4⟩ := b
  refine ⟨⟨by rw [h.2.2 _ (by omega)]; exact b1, fun j t hj => ?_⟩, by rw [h.2.2 _ (by omega)]; exact b3, fun j t hj => ?_⟩
  · rw [h.2.2 _ (by omega), h.2.2 _ (by omega)]; exact b2 j t hj
  · rw [h.2.2 _ (by omega), h.2.2 _ (by omega)]; exact b4 j t hj
theorem tbC_ext {S : St} {t : Nat} {T T1 : TB} (h : tbC S t T) (e1 : T1.1 = T.1) (e2 : T1.2.1 = T.2.1) (e3 : T1.2.2.1 = T.2.2.1) (e : ∀ w d, w < 5 → d < T.1 → T1.2.2.2 w d = T.2.2.2 w d) : tbC S t T1 := ⟨by rw [e1]; exact h.1, by rw [e2]; exact h.2.1, by rw [e3]; exact h.2.2.1, fun w d hw hd => by rw [e w d hw (by omega)]; exact h.2.2.2 w d hw (by omega)⟩
theorem tbM_ext {S : St} {T T1 : TB} (h : tbM S T) (e1 : T1.1 = T.1) (e2 : T1.2.1 = T.2.1) (e3 : T1.2.2.1 = T.2.2.1) (e : ∀ w d, w < 5 → d < T.1 → T1.2.2.2 w d = T.2.2.2 w d) : tbM S T1 := ⟨by rw [e1]; exact h.1, by rw [e2]; exact h.2.1, by rw [e3]; exact h.2.2.1, fun w d hw hd => by rw [e w d hw (by omega)]; exact h.2.2.2 w d hw (by omega)⟩
theorem tbC_set {S : St} {t : Nat} {T : TB} {w d : Nat} {v : Int32} {k : Nat} (hk : k = 5 + w) (h : tbC S t T) : tbC (stR S t k (upd (S.2 t k) d v)) t (tF T w d v) := by
  subst hk
  refine ⟨h.1, h.2.1, h.2.2.1, fun w' d' hw hd => ?_⟩
  show _ = if w' = w ∧ d' = d then v else T.2.2.2 w' d'
  by_cases e : w' = w
  · subst e
    rw [st_same]
    by_cases e2 : d' = d
    · rw [if_pos ⟨rfl, e2⟩, e2, pk_us]
    · rw [if_neg (fun q => e2 q.2), pk_un e2]
      exact h.2.2.2 w' d' hw hd
  · rw [if_neg (fun q => e q.1), st_ne (by omega)]
    exact h.2.2.2 w' d' hw hd
theorem tbM_set {S : St} {T : TB} {w d : Nat} {v : Int32} (hw : w < 5) (hd : d < 9) (h9 : T.1 ≤ 9) (h : tbM S T) : tbM (stR S 17 0 (upd (S.2 17 0) (8 + 5 * d + w) v)) (tF T w d v) := by
  refine ⟨by rw [st_same, pk_un (by omega)]; exact h.1, by rw [st_same, pk_un (by omega)]; exact h.2.1, by rw [st_same, pk_un (by omega)]; exact h.2.2.1, fun w' d' hw' hd' => ?_⟩
  show _ = if w' = w ∧ d' = d then v else T.2.2.2 w' d'
  rw [st_same]
  by_cases e : w' = w ∧ d' = d
  · rw [if_pos e, e.1, e.2, pk_us]
  · rw [if_neg e, pk_un (fun q => e (by omega))]
    exact h.2.2.2 w' d' hw' hd'
theorem e_lays1 {S : St} {Q : St → Prop} {d w : Nat} {x v : Int32} (hd : d < 9) (hw : w < 5) (hx : x = nI w) (h : Q (stR S 17 0 (upd (S.2 17 0) (8 + 5 * d + w) v))) : E_X7_lays1 (nI d) x v S Q := by
  subst hx
  unfold E_X7_lays1
  rw [show ((8 : Int32) + (5 * nI d)) + nI w = nI (8 + 5 * d + w) by rw [show (5 : Int32) = nI 5 from rfl, pk_mul, show (8 : Int32) = nI 8 from rfl, nI_add, nI_add], nI_clamp (by omega)]
  exact ⟨vp_in_nI (by omega) (by decide), h⟩
theorem eat46 {t N : Nat} {T : TB} {cl : Nat → Int32} {S : St} {Q : Int32 → St → Prop} (hN : T.1 = N) (h9 : N ≤ 9) (hcl : ∀ j, 0 ≤ (cl j).toInt) : ∀ (n i : Nat) (sz : Nat → Int32) (ac : Nat → Bool) (l : Int32) (S1 : St), i + n = N → FrT t S S1 → tbC S1 t (tS T sz) → (∀ j, j < N → S1.2 t 10 j = if ac j = true then cl j else -1) → 0 ≤ l.toInt → (∀ j, j < N → 0 ≤ (sz j).toInt) → (∀ S2, FrT t S S2 → tbC S2 t (tS T (eatN N cl n sz ac l).1) → Q (eatN N cl n sz ac l).2 S2) → L_X4_eat_46 t Q (n + 1) l (nI i) S1 := by
  intro n
  induction n with
  | zero =>
    intro i sz ac l S1 hi hF hb hr hl hz hQ
    unfold L_X4_eat_46
    have e : i = N := by omega
    rw [show S1.1 t 2 = nI N by rw [← hN]; exact hb.1, e, if_pos (nI_le (Nat.le_refl _) (by omega))]
    exact hQ S1 hF hb
  | succ n ih =>
    intro i sz ac l S1 hi hF hb hr hl hz hQ
    have hi1 : i < N := by omega
    have hN1 : S1.1 t 2 = nI N := by rw [← hN]; exact hb.1
    unfold L_X4_eat_46
    rw [hN1, if_neg (nI_ge hi1 (by omega))]
    by_cases hl0 : l ≤ 0
    · rw [if_pos hl0]
      have hl1 := Int32.le_iff_toInt_le.mp hl0
      rw [Int32.toInt_zero] at hl1
      have e : l = 0 := Int32.toInt_inj.mp (by rw [Int32.toInt_zero]; omega)
      subst e
      rw [eatN_zero _ _ _ hz] at hQ
      exact hQ S1 hF hb
    · rw [if_neg hl0]
      refine e_X4_leastClaim h9 hN1 hcl hr ?_
      cases hs : leastN ac cl N with
      | none =>
        rw [show enc none = -1 from rfl, if_neg (by decide)]
        rw [eatN_none hs] at hQ
        exact hQ S1 hF hb
      | some b =>
        obtain ⟨hbN, hba⟩ := leastN_lt hs
        have hv : vp_in (nI b) 9 := vp_in_nI (by omega) (by decide)
        have r2 : S1.2 t 7 b = sz b := hb.2.2.2 2 b (by decide) (by show b < T.1; omega)
        rw [show enc (some b) = nI b from rfl, if_pos (nI_pos' (by omega)), nI_clamp (by omega), r2]
        refine ⟨hv, ?_⟩
        simp only [nmI, nmS]
        have eb : (if sz b < l then sz b else l) = biteN l (sz b) := by
          unfold biteN
          by_cases c : l ≤ sz b
          · rw [if_pos c, if_neg (Int32.not_lt.mpr c)]
          · rw [if_neg c, if_pos (Int32.not_le.mp c)]
        rw [eb, nI_1]
        refine ⟨hv, hv, hv, ?_⟩
        obtain ⟨g1, g2, g3⟩ := biteN_rg hl (hz b hbN)
        have e1 := sub_rg g1 g2
        have e2 := sub_rg g1 g3
        refine ih (i + 1) (upd sz b (sz b - biteN l (sz b))) (off ac b) (l - biteN l (sz b)) _ (by omega) ?_ ?_ ?_ (by omega) ?_ ?_
        · exact (hF.tr (FrT.row (Or.inl rfl))).tr (FrT.row (Or.inr (Or.inr rfl)))
        · have hb2 := tbC_set (w := 2) (d := b) (v := sz b - biteN l (sz b)) (k := 7) rfl hb
          have hb3 : tbC (stR (stR S1 t 7 (upd (S1.2 t 7) b (sz b - biteN l (sz b)))) t 10 (upd ((stR S1 t 7 (upd (S1.2 t 7) b (sz b - biteN l (sz b)))).2 t 10) b (-1))) t (tF (tS T sz) 2 b (sz b - biteN l (sz b))) := by
            refine ⟨hb2.1, hb2.2.1, hb2.2.2.1, fun w d hw hd => ?_⟩
            rw [st_ne (by omega)]
            exact hb2.2.2.2 w d hw hd
          refine tbC_ext hb3 rfl rfl rfl (fun w d hw hd => ?_)
          show (if w = 2 then upd sz b (sz b - biteN l (sz b)) d else T.2.2.2 w d) = if w = 2 ∧ d = b then sz b - biteN l (sz b) else (if w = 2 then sz d else T.2.2.2 w d)
          by_cases c : w = 2
          · rw [if_pos c, if_pos c]
            by_cases c2 : d = b
            · rw [if_pos ⟨c, c2⟩, c2, pk_us]
            · rw [if_neg (fun q => c2 q.2), pk_un c2]
          · rw [if_neg c, if_neg (fun q => c q.1), if_neg c]
        · intro j hj
          rw [st_same, st_ne (by omega)]
          unfold off
          by_cases c : j = b
          · rw [c, pk_us, if_pos rfl]; simp
          · rw [pk_un c, if_neg c]
            exact hr j hj
        · intro j hj
          unfold upd
          split
          · omega
          · exact hz j hj
        · intro S2 hF2 hb2
          have := hQ S2 hF2
          unfold eatN at this
          rw [hs] at this
          exact this hb2
theorem eatM {N : Nat} {T : TB} {cl : Nat → Int32} {S : St} {Q : Int32 → St → Prop} (hN : T.1 = N) (h9 : N ≤ 9) : ∀ (c : Nat) (sz : Nat → Int32) (ac : Nat → Bool) (l : Int32) (S1 : St), cnt ac N ≤ c → FrM S S1 → tbM S1 (tS T sz) → (∀ j, j < N → S1.2 17 12 j = cl j) → (∀ j, j < N → S1.2 17 13 j = b2i (ac j)) → (∀ S2, FrM S S2 → tbM S2 (tS T (eatN N cl c sz ac l).1) → Q (eatN N cl c sz ac l).2 S2) → L_X7_eaten_7 Q (c + 1) l (enc (leastN ac cl N)) S1 := by
  intro c
  induction c with
  | zero =>
    intro sz ac l S1 hc hF hb hr hm hQ
    unfold L_X7_eaten_7
    cases hs : leastN ac cl N with
    | none =>
      rw [show enc none = -1 from rfl, if_pos rfl]
      exact hQ S1 hF hb
    | some b =>
      obtain ⟨hbN, hba⟩ := leastN_lt hs
      have := cnt_pos hbN hba
      omega
  | succ c ih =>
    intro sz ac l S1 hc hF hb hr hm hQ
    unfold L_X7_eaten_7
    cases hs : leastN ac cl N with
    | none =>
      rw [show enc none = -1 from rfl, if_pos rfl]
      rw [eatN_none hs] at hQ
      exact hQ S1 hF hb
    | some b =>
      obtain ⟨hbN, hba⟩ := leastN_lt hs
      have hb9 : b < 9 := by omega
      have hv : vp_in (nI b) 9 := vp_in_nI (by omega) (by decide)
      have r2 : S1.2 17 0 (8 + 5 * b + 2) = sz b := hb.2.2.2 2 b (by decide) (by show b < T.1; omega)
      rw [show enc (some b) = nI b from rfl, if_neg (fun e => nI_pos (n := b) (by omega) (by rw [e]; decide))]
      refine e_its (w := 2) hb9 (by decide) rfl ?_
      rw [r2]
      have step : J_X7_eaten_32 (L_X7_eaten_7 Q (c + 1)) Q l (nI b) (biteN l (sz b)) S1 := by
        unfold J_X7_eaten_32
        refine e_its (w := 2) hb9 (by decide) rfl ?_
        rw [r2]
        refine e_lays1 (w := 2) hb9 (by decide) rfl ?_
        simp only [nmI, nmS]
        rw [nI_clamp (by omega)]
        refine ⟨hv, ?_⟩
        have hb2 := tbM_set (w := 2) (d := b) (v := sz b - biteN l (sz b)) (by decide) hb9 (by show T.1 ≤ 9; omega) hb
        have hF2 : FrM S1 (stR S1 17 0 (upd (S1.2 17 0) (8 + 5 * b + 2) (sz b - biteN l (sz b)))) := FrM.set (by omega)
        generalize hS2 : stR S1 17 0 (upd (S1.2 17 0) (8 + 5 * b + 2) (sz b - biteN l (sz b))) = S2 at hb2 hF2 ⊢
        have hr12 : S2.2 17 12 = S1.2 17 12 := by rw [← hS2, st_ne (by omega)]
        have hr13 : S2.2 17 13 = S1.2 17 13 := by rw [← hS2, st_ne (by omega)]
        have hF3 : FrM S2 (stR S2 17 13 (upd (S2.2 17 13) b (vp_nar .boolean 0))) := FrM.row (by decide) (by decide)
        have hb3 : tbM (stR S2 17 13 (upd (S2.2 17 13) b (vp_nar .boolean 0))) (tS T (upd sz b (sz b - biteN l (sz b)))) := by
          refine tbM_ext (T := tF (tS T sz) 2 b (sz b - biteN l (sz b))) ?_ rfl rfl rfl (fun w d hw hd => ?_)
          · unfold tbM at hb2 ⊢
            rw [st_ne (by omega)]
            exact hb2
          · show (if w = 2 then upd sz b (sz b - biteN l (sz b)) d else T.2.2.2 w d) = if w = 2 ∧ d = b then sz b - biteN l (sz b) else (if w = 2 then sz d else T.2.2.2 w d)
            by_cases c : w = 2
            · rw [if_pos c, if_pos c]
              by_cases c2 : d = b
              · rw [if_pos ⟨c, c2⟩, c2, pk_us]
              · rw [if_neg (fun q => c2 q.2), pk_un c2]
            · rw [if_neg c, if_neg (fun q => c q.1), if_neg c]
        have hm3 : ∀ j, j < N → (stR S2 17 13 (upd (S2.2 17 13) b (vp_nar .boolean 0))).2 17 13 j = b2i (off ac b j) := by
          intro j hj
          rw [st_same, hr13]
          unfold off
          by_cases c : j = b
          · rw [c, pk_us, if_pos rfl]; decide
          · rw [pk_un c, if_neg c]; exact hm j hj
        have hr3 : ∀ j, j < N → (stR S2 17 13 (upd (S2.2 17 13) b (vp_nar .boolean 0))).2 17 12 j = cl j := by
          intro j hj
          rw [st_ne (by omega), hr12]
          exact hr j hj
        refine e_X7_leastClaim h9 (by have := hb3.1; rw [← hN]; exact this) hr3 hm3 ?_
        refine ih _ (off ac b) _ _ ?_ ((hF.tr hF2).tr hF3) hb3 hr3 hm3 (fun S4 h1 h2 => ?_)
        · have := cnt_off (ac := ac) hba (i := N)
          rw [if_pos hbN] at this
          omega
        · have := hQ S4 h1
          unfold eatN at this
          rw [hs] at this
          exact this h2
      by_cases hc2 : l ≤ sz b
      · rw [if_pos hc2]
        rw [show biteN l (sz b) = l by unfold biteN; rw [if_pos hc2]] at step
        exact step
      · rw [if_neg hc2]
        refine e_its (w := 2) hb9 (by decide) rfl ?_
        rw [r2]
        rw [show biteN l (sz b) = sz b by unfold biteN; rw [if_neg hc2]] at step
        exact step
