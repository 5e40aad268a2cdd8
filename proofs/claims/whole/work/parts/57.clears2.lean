/-! the fewest, and of them the least -/
def bestN (cs : Nat → Int) (P : Nat → Bool) : Nat → Option Nat
  | 0 => none
  | s + 1 => match bestN cs P s with
    | none => if P s = true then some s else none
    | some b => if cs b ≤ cs s then some b else if P s = true then some s else some b
theorem bestN_spec (cs : Nat → Int) (P : Nat → Bool) : ∀ M, (bestN cs P M = none ∧ ∀ s, s < M → P s = false) ∨ ∃ b, bestN cs P M = some b ∧ b < M ∧ P b = true ∧ (∀ s, s < M → P s = true → cs b ≤ cs s) ∧ ∀ s, s < b → P s = true → cs b < cs s := by
  intro M
  induction M with
  | zero => exact Or.inl ⟨rfl, fun s hs => absurd hs (Nat.not_lt_zero s)⟩
  | succ M ih =>
    rcases ih with ⟨e, h⟩ | ⟨b, e, h1, h2, h3, h4⟩
    · unfold bestN
      rw [e]
      dsimp only
      by_cases hp : P M = true
      · rw [if_pos hp]
        refine Or.inr ⟨M, rfl, Nat.lt_succ_self M, hp, fun s hs hs2 => ?_, fun s hs hs2 => ?_⟩
        · by_cases q : s = M
          · rw [q]; exact Int.le_refl _
          · have := h s (by omega); rw [this] at hs2; cases hs2
        · have := h s hs; rw [this] at hs2; cases hs2
      · rw [if_neg hp]
        refine Or.inl ⟨rfl, fun s hs => ?_⟩
        by_cases q : s = M
        · rw [q]; simpa using hp
        · exact h s (by omega)
    · unfold bestN
      rw [e]
      dsimp only
      by_cases hc : cs b ≤ cs M
      · rw [if_pos hc]
        refine Or.inr ⟨b, rfl, by omega, h2, fun s hs hs2 => ?_, h4⟩
        by_cases q : s = M
        · rw [q]; exact hc
        · exact h3 s (by omega) hs2
      · rw [if_neg hc]
        by_cases hp : P M = true
        · rw [if_pos hp]
          refine Or.inr ⟨M, rfl, Nat.lt_succ_self M, hp, fun s hs hs2 => ?_, fun s hs hs2 => ?_⟩
          · by_cases q : s = M
            · rw [q]; exact Int.le_refl _
            · have := h3 s (by omega) hs2; omega
          · have := h3 s hs hs2; omega
        · rw [if_neg hp]
          refine Or.inr ⟨b, rfl, by omega, h2, fun s hs hs2 => ?_, h4⟩
          by_cases q : s = M
          · rw [q] at hs2; exact absurd hs2 hp
          · exact h3 s (by omega) hs2
theorem bestN_eq {cs : Nat → Int} {P : Nat → Bool} {M s : Nat} (hs : s < M) (hp : P s = true) (h1 : ∀ s', s' < M → P s' = true → cs s ≤ cs s') (h2 : ∀ s', s' < s → P s' = true → ¬ cs s' = cs s) : bestN cs P M = some s := by
  rcases bestN_spec cs P M with ⟨-, h⟩ | ⟨b, e, b1, b2, b3, b4⟩
  · have := h s hs; rw [this] at hp; cases hp
  · rw [e]
    have l1 := h1 b b1 b2
    have l2 := b3 s hs hp
    by_cases q : b = s
    · rw [q]
    · by_cases q2 : b < s
      · exact absurd (by omega) (h2 b q2 b2)
      · have := b4 s (by omega) hp
        omega
theorem pow_sh {N : Nat} (h : N ≤ 9) : (1 : Int32) <<< (nI N &&& 31) = nI (2 ^ N) := by
  have : ∀ N : Nat, N ≤ 9 → (1 : Int32) <<< (nI N &&& 31) = nI (2 ^ N) := by decide +kernel
  exact this N h
theorem f_clears {c : Nat} {SC SM : St} (R : Rel c SC SM) (x1 x2 x3 x4 : Int32) : E_X6_clears x1 x2 x3 x4 SC (fun r SC1 => E_X7_clears x1 x2 x3 x4 SM (RQ c SC1 r)) := by
  obtain ⟨H, h1, h2, h3⟩ := R.1
  have h9 := h3.1.1
  have hLC := lawsC_of h1 R.2.1
  have v5 : vp_in (5 : Int32) 387 := vp_in_nI (n := 5) (by decide) (by decide)
  unfold E_X6_clears
  rcases pk_ix x1 (n := H.1.1) (by omega) with hx | hx | ⟨d, hd, rfl⟩
  · refine has_no h1.1.1 (Or.inl hx) ?_
    rw [if_pos rfl]
    refine e_wrong 1 (by decide) rfl ?_
    unfold E_X7_clears
    refine dis_no h2.1.1 h9 (Or.inl hx) ?_
    rw [if_pos rfl]
    exact e_error 1 (by decide) rfl ⟨rfl, (R.err 1 (by decide)).up⟩
  · refine has_no h1.1.1 (Or.inr hx) ?_
    rw [if_pos rfl]
    refine e_wrong 1 (by decide) rfl ?_
    unfold E_X7_clears
    refine dis_no h2.1.1 h9 (Or.inr hx) ?_
    rw [if_pos rfl]
    exact e_error 1 (by decide) rfl ⟨rfl, (R.err 1 (by decide)).up⟩
  refine has_ok h1.1.1 h9 hd ?_
  rw [if_neg (by decide)]
  rcases win x2 0 6 with hn | hn
  · refine w_no hn ?_
    rw [if_pos rfl]
    refine e_wrong 1 (by decide) rfl ?_
    unfold E_X7_clears
    refine dis_ok h2.1.1 h9 hd ?_
    rw [if_neg (by decide)]
    refine i_no hn ?_
    rw [if_pos rfl]
    exact e_error 1 (by decide) rfl ⟨rfl, (R.err 1 (by decide)).up⟩
  refine w_ok hn ?_
  rw [if_neg (by decide)]
  rcases win x3 0 99 with hk | hk
  · refine hc_no hk ?_
    rw [if_pos rfl]
    refine e_wrong 1 (by decide) rfl ?_
    unfold E_X7_clears
    refine dis_ok h2.1.1 h9 hd ?_
    rw [if_neg (by decide)]
    refine i_ok hn ?_
    rw [if_neg (by decide)]
    refine hm_no hk ?_
    rw [if_pos rfl]
    exact e_error 1 (by decide) rfl ⟨rfl, (R.err 1 (by decide)).up⟩
  refine hc_ok hk ?_
  rw [if_neg (by decide)]
  rcases win x4 0 1 with hw | hw
  · refine w_no hw ?_
    rw [if_pos rfl]
    refine e_wrong 1 (by decide) rfl ?_
    unfold E_X7_clears
    refine dis_ok h2.1.1 h9 hd ?_
    rw [if_neg (by decide)]
    refine i_ok hn ?_
    rw [if_neg (by decide)]
    refine hm_ok hk ?_
    rw [if_neg (by decide)]
    refine i_no hw ?_
    rw [if_pos rfl]
    exact e_error 1 (by decide) rfl ⟨rfl, (R.err 1 (by decide)).up⟩
  refine w_ok hw ?_
  rw [if_neg (by decide), show SC.1 3 2 = nI H.1.1 from h1.1.1, pow_sh h9]
  have rg := rg_of (m := 99) rfl (by decide) hk
  have hn0 := hn
  obtain ⟨m, hm6, rfl⟩ := win_nI (b := 6) (m := 6) rfl (by decide) hn
  obtain ⟨M, hM⟩ : ∃ M, M = 2 ^ H.1.1 := ⟨_, rfl⟩
  have hM512 : M ≤ 512 := by rw [hM]; exact Nat.pow_le_pow_right (by decide) h9
  rw [← hM]
  obtain ⟨P, hP⟩ : ∃ P : Nat → Bool, ∀ s, P s = rulB H.2.1 x3 m d (zT H.1 (nI s) H.1.1) := ⟨_, fun _ => rfl⟩
  obtain ⟨cs, hcs⟩ : ∃ cs : Nat → Int, ∀ s, cs s = (mIn (nI s) 9).toInt := ⟨_, fun _ => rfl⟩
  obtain ⟨G, hG⟩ : ∃ G, G = bestN cs P M := ⟨_, rfl⟩
  have mod : ∀ (SC1 : St) (r : Int32), (∀ b, G = some b → r = (if x4 = 0 then mIn (nI b) 9 else nI b) ∧ ∀ SM1, FrL SM SM1 → Rel c SC1 SM1) → (G = none → ∃ SC0, SC1 = erC SC0 2 ∧ r = (-1000000000) - 2 ∧ ∀ SM1, FrL SM SM1 → Rel c SC0 SM1) → E_X7_clears (nI d) (nI m) x3 x4 SM (RQ c SC1 r) := by
    intro SC1 r hs hno
    unfold E_X7_clears
    refine dis_ok h2.1.1 h9 hd ?_
    rw [if_neg (by decide)]
    refine i_ok hn0 ?_
    rw [if_neg (by decide)]
    refine hm_ok hk ?_
    rw [if_neg (by decide)]
    refine i_ok hw ?_
    rw [if_neg (by decide)]
    have key : ∀ (n s : Nat) (S1 : St), s + n = M → FrL SM S1 → L_X7_clears_47 (RQ c SC1 r) (n + 1) (nI d) (nI m) x3 x4 (enc (bestN cs P s)) (nI s) S1 := by
      intro n
      induction n with
      | zero =>
        intro s S1 hi hF
        have e : s = M := by omega
        subst e
        unfold L_X7_clears_47
        rw [show (5 : Int32).toNatClampNeg = 5 by decide, show S1.2 17 0 5 = nI H.1.1 from (hF.tb h2.1).1, pow_sh h9, ← hM, if_pos (nI_le (Nat.le_refl _) (by omega))]
        refine ⟨v5, ?_⟩
        rw [← hG]
        cases hg : G with
        | none =>
          rw [show enc none = -1 from rfl, if_pos rfl]
          obtain ⟨SC0, e1, e2, e3⟩ := hno hg
          subst e1
          exact e_error 2 (by decide) rfl ⟨e2, ((e3 _ hF).err 2 (by decide)).up⟩
        | some b =>
          have hb : b < s := by
            rcases bestN_spec cs P s with ⟨q, -⟩ | ⟨b', q, q1, -⟩
            · rw [← hG, hg] at q; cases q
            · rw [← hG, hg] at q; cases q; exact q1
          obtain ⟨e1, e2⟩ := hs b hg
          rw [show enc (some b) = nI b from rfl, if_neg (fun e => nI_pos (n := b) (by omega) (by rw [e]; decide))]
          by_cases c0 : x4 = 0
          · rw [if_pos c0] at e1 ⊢
            exact e_manyIn ⟨e1, (e2 _ hF).up⟩
          · rw [if_neg c0] at e1 ⊢
            exact ⟨e1, (e2 _ hF).up⟩
      | succ n ih =>
        intro s S1 hi hF
        have hs1 : s < M := by omega
        have rul : ∀ z : Option Nat, enc z = enc (bestN cs P s) → (P s = true → bestN cs P (s + 1) = some s) → (P s = false → bestN cs P (s + 1) = bestN cs P s) → J_X7_clears_84 (L_X7_clears_47 (RQ c SC1 r) (n + 1)) (RQ c SC1 r) (nI d) (nI m) x3 x4 (enc (bestN cs P s)) (nI s) 1 S1 := by
          intro z hz p1 p2
          unfold J_X7_clears_84
          rw [if_neg (by decide)]
          refine e_doesRule h3.1 (hF.tb h2.1) (hF.lw h2.2.1) h3.2.1 hd (by omega) rg.1 rg.2 (fun S2 f2 => ?_)
          rw [← hP s]
          simp only [nmI]
          rw [nI_1]
          cases hp : P s with
          | false =>
            rw [if_pos (by decide)]
            have := ih (s + 1) S2 (by omega) (hF.tr f2)
            rw [p2 hp] at this
            exact this
          | true =>
            rw [if_neg (by decide)]
            have := ih (s + 1) S2 (by omega) (hF.tr f2)
            rw [p1 hp] at this
            exact this
        unfold L_X7_clears_47
        rw [show (5 : Int32).toNatClampNeg = 5 by decide, show S1.2 17 0 5 = nI H.1.1 from (hF.tb h2.1).1, pow_sh h9, ← hM, if_neg (nI_ge hs1 (by omega))]
        refine ⟨v5, ?_⟩
        have rs := rul (bestN cs P s) rfl
        cases hb : bestN cs P s with
        | none =>
          rw [hb] at rs
          rw [show enc none = -1 from rfl, if_pos rfl]
          exact rs (fun hp => by unfold bestN; rw [hb]; dsimp only; rw [if_pos hp]) (fun hp => by unfold bestN; rw [hb]; dsimp only; rw [hp, if_neg (by decide)])
        | some b =>
          rw [hb] at rs
          have hbs : b < s := by
            rcases bestN_spec cs P s with ⟨q, -⟩ | ⟨b', q, q1, -⟩
            · rw [hb] at q; cases q
            · rw [hb] at q; cases q; exact q1
          rw [show enc (some b) = nI b from rfl, if_neg (fun e => nI_pos (n := b) (by omega) (by rw [e]; decide))]
          refine e_manyIn (e_manyIn ?_)
          by_cases hc : cs b ≤ cs s
          · rw [if_pos (Int32.le_iff_toInt_le.mpr (by rw [← hcs, ← hcs]; exact hc))]
            unfold J_X7_clears_84
            rw [if_pos rfl]
            simp only [nmI]
            rw [nI_1]
            have := ih (s + 1) S1 (by omega) hF
            rw [show bestN cs P (s + 1) = some b by unfold bestN; rw [hb]; dsimp only; rw [if_pos hc]] at this
            exact this
          · rw [if_neg (fun q => hc (by rw [hcs, hcs]; exact Int32.le_iff_toInt_le.mp q))]
            exact rs (fun hp => by unfold bestN; rw [hb]; dsimp only; rw [if_neg hc, if_pos hp]) (fun hp => by unfold bestN; rw [hb]; dsimp only; rw [if_neg hc, hp, if_neg (by decide)])
    exact ⟨M + 1, key M 0 SM (by omega) FrL.rf⟩
  have inner : ∀ (many : Nat) (K : Int32 → Int32 → Int32 → Int32 → Int32 → Int32 → St → Prop), many ≤ 9 → (∀ s, s < M → P s = true → (many : Int) ≤ cs s) → ((∀ s, s < M → cs s = many → P s = false) → ∀ S2, FrO 5 SC S2 → K (nI d) (nI m) x3 x4 (nI M) (nI (many + 1)) S2) → ∀ (n s : Nat) (S1 : St), s + n = M → FrO 5 SC S1 → (∀ s', s' < s → cs s' = many → P s' = false) → L_X6_clears_73 K (fun r SC1 => E_X7_clears (nI d) (nI m) x3 x4 SM (RQ c SC1 r)) (n + 1) (nI d) (nI m) x3 x4 (nI M) (nI many) (nI s) S1 := by
    intro many K hm9 hmin hK n
    induction n with
    | zero =>
      intro s S1 hi hF hno
      have e : s = M := by omega
      subst e
      unfold L_X6_clears_73
      rw [if_pos (nI_le (Nat.le_refl _) (by omega))]
      simp only [nmI]
      rw [nI_1]
      exact hK hno S1 hF
    | succ n ih =>
      intro s S1 hi hF hno
      have hs1 : s < M := by omega
      obtain ⟨t1, t2, t3⟩ := bc_tab s (by omega)
      unfold L_X6_clears_73
      rw [if_neg (nI_ge hs1 (by omega))]
      refine e_bitCount ?_
      rw [t1]
      simp only [nmI]
      rw [nI_1]
      have ceq : mIn (nI s) 9 = nI many ↔ cs s = many := by
        rw [hcs]
        constructor
        · intro e; rw [e, nI_toInt (by omega)]
        · intro e; exact Int32.toInt_inj.mp (by rw [e, nI_toInt (by omega)])
      by_cases hc : cs s = many
      · rw [if_pos (ceq.mpr hc)]
        refine e_rulesWithout h3.1 (hF.tb h1.1) (hF.lw hLC) h3.2.1 hd (by omega) rg.1 rg.2 (fun S2 f2 => ?_)
        rw [← hP s]
        cases hp : P s with
        | false =>
          rw [if_pos (by decide)]
          refine ih (s + 1) S2 (by omega) (hF.tr f2) (fun s' hs' hc' => ?_)
          by_cases q : s' = s
          · rw [q]; exact hp
          · exact hno s' (by omega) hc'
        | true =>
          rw [if_neg (by decide)]
          have hg : G = some s := by
            rw [hG]
            refine bestN_eq hs1 hp (fun s' hs' hp' => by have := hmin s' hs' hp'; omega) (fun s' hs' hp' hc' => ?_)
            have := hno s' hs' (by omega)
            rw [this] at hp'
            cases hp'
          have fin : ∀ r, r = (if x4 = 0 then mIn (nI s) 9 else nI s) → E_X7_clears (nI d) (nI m) x3 x4 SM (RQ c S2 r) := fun r hr => mod S2 r (fun b hb => by rw [hg] at hb; cases hb; exact ⟨hr, fun SM1 fL => R.think (hF.tr f2) fL⟩) (fun e => by rw [hg] at e; cases e)
          by_cases c0 : x4 = 0
          · rw [if_pos c0]
            exact fin _ (by rw [if_pos c0]; exact (ceq.mpr hc).symm)
          · rw [if_neg c0]
            exact fin _ (by rw [if_neg c0])
      · rw [if_neg (fun q => hc (ceq.mp q))]
        refine ih (s + 1) S1 (by omega) hF (fun s' hs' hc' => ?_)
        by_cases q : s' = s
        · rw [q] at hc'; exact absurd hc' hc
        · exact hno s' (by omega) hc'
  have outer : ∀ (n many : Nat) (S1 : St), many + n = H.1.1 + 1 → FrO 5 SC S1 → (∀ s, s < M → P s = true → (many : Int) ≤ cs s) → L_X6_clears_58 (fun r SC1 => E_X7_clears (nI d) (nI m) x3 x4 SM (RQ c SC1 r)) (n + 1) (nI d) (nI m) x3 x4 (nI M) (nI many) S1 := by
    intro n
    induction n with
    | zero =>
      intro many S1 hi hF hmin
      unfold L_X6_clears_58
      rw [show S1.1 3 2 = nI H.1.1 from (hF.tb h1.1).1, if_pos (nI_lt (show H.1.1 < many by omega) (by omega))]
      refine e_wrong 2 (by decide) rfl (mod _ _ (fun b hb => ?_) (fun _ => ⟨S1, rfl, rfl, fun SM1 fL => R.think hF fL⟩))
      exfalso
      rcases bestN_spec cs P M with ⟨q, -⟩ | ⟨b', q, q1, q2, -⟩
      · rw [← hG, hb] at q; cases q
      · have a := hmin b' q1 q2
        have b := bc_le H.1.1 h9 b' (by rw [← hM]; exact q1)
        rw [hcs] at a
        omega
    | succ n ih =>
      intro many S1 hi hF hmin
      unfold L_X6_clears_58
      rw [show S1.1 3 2 = nI H.1.1 from (hF.tb h1.1).1, if_neg (nI_nlt (show many ≤ H.1.1 by omega) (by omega))]
      refine ⟨M + 1, inner many _ (by omega) hmin (fun hno S2 f2 => ih (many + 1) S2 (by omega) f2 (fun s hs hp => ?_)) M 0 S1 (by omega) hF (fun s' hs' => absurd hs' (Nat.not_lt_zero s'))⟩
      have a := hmin s hs hp
      by_cases q : cs s = many
      · have := hno s hs q; rw [this] at hp; cases hp
      · omega
  exact ⟨H.1.1 + 2, outer (H.1.1 + 1) 0 SC (by omega) FrO.rf (fun s hs _ => by rw [hcs]; exact (bc_tab s (by omega)).2.1)⟩
