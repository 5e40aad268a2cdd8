/-! PAIRS OF CALLS: fits, move, untell -/
def fitN (g z : Nat → Int32) (N : Nat) : Nat → Nat → Bool
  | 0, _ => true
  | n + 1, i => decide (i < N) && (decide (g i = z i) && fitN g z N n (i + 1))
theorem fitN_no {g z : Nat → Int32} {N : Nat} : ∀ n i : Nat, i ≤ N → N < i + n → fitN g z N n i = false := by
  intro n
  induction n with
  | zero => intro i h1 h2; omega
  | succ n ih =>
    intro i h1 h2
    unfold fitN
    by_cases q : i < N
    · rw [ih (i + 1) (by omega) (by omega), Bool.and_false, Bool.and_false]
    · rw [decide_eq_false q, Bool.false_and]
theorem b2i_tf {b : Bool} {S : St} {Q : Int32 → St → Prop} (h : Q (b2i b) S) : (b = true → Q 1 S) ∧ (b = false → Q 0 S) := ⟨fun e => by rw [e] at h; exact h, fun e => by rw [e] at h; exact h⟩
theorem e_tells {S : St} {Q : Int32 → St → Prop} {p n : Nat} {T : TB} {g : Nat → Int32} (hn : n ≤ 24) (h9 : T.1 ≤ 9) (ht : tbC S 5 T) (e1 : S.1 p 1 = nI n) (eg : ∀ i, S.2 p 2 i = g i) (h : Q (b2i (fitN g (T.2.2.2 2) T.1 n 0)) S) : E_X6_tellsSizes p S Q := by
  have key : ∀ (m i : Nat), i + m = n → Q (b2i (fitN g (T.2.2.2 2) T.1 m i)) S → L_X6_tellsSizes_2 p Q (m + 1) (nI i) S := by
    intro m
    induction m with
    | zero =>
      intro i hi h
      unfold L_X6_tellsSizes_2
      rw [e1, if_pos (nI_le (by omega) (by omega))]
      exact h
    | succ m ih =>
      intro i hi h
      unfold L_X6_tellsSizes_2
      rw [e1, if_neg (nI_ge (show i < n by omega) (by omega))]
      rw [fitN] at h
      by_cases hN : i < T.1
      · rw [decide_eq_true hN, Bool.true_and] at h
        refine has_ok ht.1 h9 hN ?_
        rw [if_neg (by decide), nI_clamp (by omega), eg i, show S.2 5 7 i = T.2.2.2 2 i from ht.2.2.2 2 i (by decide) hN]
        refine ⟨vp_in_nI (by omega) (by decide), vp_in_nI (by omega) (by decide), ?_⟩
        simp only [nmI]
        by_cases q : g i = T.2.2.2 2 i
        · rw [decide_eq_true q, Bool.true_and] at h
          rw [if_pos q, nI_1]
          exact ih (i + 1) (by omega) h
        · rw [decide_eq_false q, Bool.false_and] at h
          rw [if_neg q]
          exact h
      · rw [decide_eq_false hN, Bool.false_and] at h
        refine has_no ht.1 (Or.inr (nI_le (by omega) (by omega))) ?_
        rw [if_pos rfl]
        exact h
  exact ⟨n + 1, key n 0 (by omega) h⟩
theorem e_isLeftSo {S : St} {Q : Int32 → St → Prop} {j n : Nat} {T : TB} {L : List Int32 × List Int32} {g : Nat → Int32} {h : Int32} (hj : j ≤ 3) (hn : n ≤ 24) (hI : InvT T) (ht : tbM S T) (hL : lawsM S L) (hwf : wfL L) (h0 : 0 ≤ h.toInt) (h1 : h.toInt ≤ 99) (e1 : S.2 17 19 j = nI n) (eg : ∀ i, i < 24 → S.2 17 20 (24 * j + i) = g i) (hQ : ∀ S1, FrL S S1 → Q (b2i (fitN g ((mealT L T h).2.2.2.2 2) T.1 n 0)) S1) : E_X7_isLeftSo (nI j) h S Q := by
  have h9 := hI.1
  have v5 : vp_in (5 : Int32) 387 := vp_in_nI (n := 5) (by decide) (by decide)
  have c5 : (5 : Int32).toNatClampNeg = 5 := by decide
  have vj : vp_in (nI j) 4 := vp_in_nI (by omega) (by decide)
  have mI := mealT_inv (L := L) hI h0 h1
  unfold E_X7_isLeftSo
  refine e_layDown (fun f hf => e_aMeal hI (lay_tb ht) (lay_lw hL) hwf h0 h1 (fun S2 f2 t2 => ?_))
  rw [nI_clamp (by omega), c5, show S2.2 17 0 5 = nI T.1 by rw [t2.1, mI.2.2.2], f2.2.1 17 19 (by omega), st_ne (by omega), e1]
  refine ⟨vj, v5, ?_⟩
  have e19 : S2.2 17 19 j = nI n := by rw [f2.2.1 17 19 (by omega), st_ne (by omega)]; exact e1
  have e20 : ∀ i, i < 24 → S2.2 17 20 (24 * j + i) = g i := fun i hi => by rw [f2.2.1 17 20 (by omega), st_ne (by omega)]; exact eg i hi
  have fin : ∀ b : Bool, b = fitN g ((mealT L T h).2.2.2.2 2) T.1 n 0 → E_X7_layBack S2 (fun S4 => (b2i b = 0 ∨ b2i b = 1) ∧ Q (b2i b) S4) := by
    intro b e
    subst e
    refine e_layBack ⟨?_, hQ _ (lay_back hf f2)⟩
    cases fitN g ((mealT L T h).2.2.2.2 2) T.1 n 0
    · exact Or.inl rfl
    · exact Or.inr rfl
  have key : ∀ (m i : Nat) (b : Bool), i + m = n → n ≤ T.1 → (b && fitN g ((mealT L T h).2.2.2.2 2) T.1 m i) = fitN g ((mealT L T h).2.2.2.2 2) T.1 n 0 → L_X7_isLeftSo_35 Q (m + 1) (nI j) (b2i b) (nI i) S2 := by
    intro m
    induction m with
    | zero =>
      intro i b hi hnT he
      unfold L_X7_isLeftSo_35
      rw [nI_clamp (by omega), e19, if_pos (nI_le (by omega) (by omega))]
      rw [fitN, Bool.and_true] at he
      exact ⟨vj, fin b he⟩
    | succ m ih =>
      intro i b hi hnT he
      unfold L_X7_isLeftSo_35
      rw [nI_clamp (by omega), e19, if_neg (nI_ge (show i < n by omega) (by omega))]
      refine ⟨vj, ?_⟩
      cases b with
      | false =>
        rw [Bool.false_and] at he
        rw [if_pos (show b2i false = 0 from rfl)]
        exact fin false he
      | true =>
        rw [if_neg (show ¬ b2i true = 0 by decide)]
        rw [Bool.true_and, fitN, decide_eq_true (show i < T.1 by omega), Bool.true_and] at he
        refine e_its (w := 2) (by omega) (by decide) rfl ?_
        rw [show ((24 : Int32) * nI j) + nI i = nI (24 * j + i) by rw [show (24 : Int32) = nI 24 from rfl, pk_mul, nI_add], nI_clamp (by omega), e20 i (by omega), show S2.2 17 0 (8 + 5 * i + 2) = (mealT L T h).2.2.2.2 2 i from t2.2.2.2 2 i (by decide) (by rw [mI.2.2.2]; omega)]
        refine ⟨vp_in_nI (by omega) (by decide), ?_⟩
        simp only [nmI]
        rw [nI_1]
        by_cases q : g i = (mealT L T h).2.2.2.2 2 i
        · rw [decide_eq_true q] at he
          rw [if_pos q.symm]
          exact ih (i + 1) true (by omega) hnT he
        · rw [decide_eq_false q] at he
          rw [if_neg (fun e => q e.symm)]
          exact ih (i + 1) false (by omega) hnT he
  by_cases hnT : T.1 < n
  · rw [if_pos (nI_lt hnT (by omega))]
    refine ⟨1, ?_⟩
    unfold L_X7_isLeftSo_35
    rw [nI_clamp (by omega), e19, if_neg (show ¬ nI n ≤ (0 : Int32) from nI_ge (a := 0) (by omega) (by omega)), if_pos rfl]
    exact ⟨vj, fin false (fitN_no n 0 (by omega) (by omega)).symm⟩
  · rw [if_neg (nI_nlt (by omega) (by omega))]
    exact ⟨n + 1, key n 0 true (by omega) (by omega) (Bool.true_and _)⟩
def cD (p : Nat → Bool) : Nat → Nat → Nat
  | 0, _ => 0
  | k + 1, i => (if p i = true then 1 else 0) + cD p k (i + 1)
def fD (p : Nat → Bool) : Nat → Nat → Int32
  | 0, _ => -1
  | k + 1, i => if p i = true then nI i else fD p k (i + 1)
theorem fD_or (p : Nat → Bool) : ∀ k i, i + k ≤ 100 → fD p k i = -1 ∨ ∃ a, a < 100 ∧ fD p k i = nI a := by
  intro k
  induction k with
  | zero => intro i _; exact Or.inl rfl
  | succ k ih =>
    intro i hi
    rw [fD]
    by_cases q : p i = true
    · rw [if_pos q]; exact Or.inr ⟨i, by omega, rfl⟩
    · rw [if_neg q]; exact ih (i + 1) (by omega)
theorem f_fits {c : Nat} {SC SM : St} (R : Rel c SC SM) (x1 x2 : Int32) : E_X6_fits x1 x2 SC (fun r SC1 => E_X7_fits x1 x2 SM (RQ c SC1 r)) := by
  obtain ⟨H, h1, h2, h3⟩ := R.1
  have h9 := h3.1.1
  have hLC := lawsC_of h1 R.2.1
  unfold E_X6_fits
  rcases win x1 0 3 with hw | hw
  · refine sh_no hw ?_
    rw [if_pos rfl]
    refine e_wrong 1 (by decide) rfl ?_
    unfold E_X7_fits J_X7_fits_18
    rcases win x2 0 1 with hu | hu
    · refine i_no hu ?_
      rw [if_pos rfl, if_neg (by decide)]
      exact e_error 1 (by decide) rfl ⟨rfl, (R.err 1 (by decide)).up⟩
    · refine i_ok hu ?_
      rw [if_neg (by decide)]
      refine lk_1 hw ?_
      rw [if_neg (by decide)]
      exact e_error 1 (by decide) rfl ⟨rfl, (R.err 1 (by decide)).up⟩
  refine sh_ok hw ?_
  rw [if_neg (by decide)]
  rcases win x2 0 1 with hu | hu
  · refine w_no hu ?_
    rw [if_pos rfl]
    refine e_wrong 1 (by decide) rfl ?_
    unfold E_X7_fits J_X7_fits_18
    refine i_no hu ?_
    rw [if_pos rfl, if_neg (by decide)]
    exact e_error 1 (by decide) rfl ⟨rfl, (R.err 1 (by decide)).up⟩
  refine w_ok hu ?_
  rw [if_neg (by decide)]
  obtain ⟨j, hj, rfl⟩ := win_nI (b := 3) (m := 3) rfl (by decide) hw
  have hv : vp_in (nI j) 4 := vp_in_nI (by omega) (by decide)
  refine ⟨hv, ?_⟩
  obtain ⟨b, n, g1, g2, g3, g4, g5, g6, g7⟩ := R.2.2.2.2.2 j (by omega)
  by_cases z : b = 0
  · refine miss1 (by rw [nI_clamp (by omega), g3, z]) ?_
    rw [if_neg (by decide)]
    refine e_wrong 2 (by decide) rfl ?_
    unfold E_X7_fits J_X7_fits_18
    refine i_ok hu ?_
    rw [if_neg (by decide)]
    refine lk_2 hj (by rw [g4, z]) ?_
    rw [if_neg (by decide)]
    exact e_error 2 (by decide) rfl ⟨rfl, (R.err 2 (by decide)).up⟩
  refine miss0 (by rw [nI_clamp (by omega), g3]; exact z) ?_
  rw [if_pos rfl]
  obtain ⟨g, hg⟩ : ∃ g : Nat → Int32, ∀ i, SC.2 (13 + j) 2 i = g i := ⟨_, fun _ => rfl⟩
  obtain ⟨p, hp⟩ : ∃ p : Nat → Bool, ∀ i, p i = fitN g ((mealT H.2.1 H.1 (nI i)).2.2.2.2 2) H.1.1 n 0 := ⟨_, fun _ => rfl⟩
  have hgr : ∀ i, i < 100 → 0 ≤ (nI i).toInt ∧ (nI i).toInt ≤ 99 := fun i hi => by rw [nI_toInt (by omega)]; omega
  have mod : ∀ (SC1 : St) (r : Int32), (∀ S1, FrL SM S1 → (if x2 = 0 then RQ c SC1 r (nI (cD p 100 0)) S1 else if fD p 100 0 = -1 then E_X7_error 2 S1 (fun v4 S3 => RQ c SC1 r v4 S3) else RQ c SC1 r (fD p 100 0) S1)) → E_X7_fits (nI j) x2 SM (RQ c SC1 r) := by
    intro SC1 r hQ
    unfold E_X7_fits J_X7_fits_18
    refine i_ok hu ?_
    rw [if_neg (by decide)]
    refine lk_ok hj (by rw [g4]; exact z) ?_
    rw [if_pos rfl]
    have step : ∀ (nn i k : Nat) (x6 : Int32) (S1 : St), i < 100 → FrL SM S1 → x6 = nI i → (∀ S2, FrL SM S2 → L_X7_fits_39 (RQ c SC1 r) nn (nI j) x2 (nI (cD p (k + 1) i)) (fD p (k + 1) i) (x6 + (-1)) S2) → L_X7_fits_39 (RQ c SC1 r) (nn + 1) (nI j) x2 (nI (cD p k (i + 1))) (fD p k (i + 1)) x6 S1 := by
      intro nn i k x6 S1 hi hF e6 hnx
      subst e6
      unfold L_X7_fits_39
      rw [if_neg (nI_pos (by omega))]
      refine e_isLeftSo (g := g) hj g2 h3.1 (hF.tb h2.1) (hF.lw h2.2.1) h3.2.1 (hgr i hi).1 (hgr i hi).2 (by rw [hF.2 17 19 (by omega)]; exact g6) (fun a ha => by rw [hF.2 17 20 (by omega), ← g7 a ha]; exact hg a) (fun S2 f2 => ?_)
      rw [← hp i]
      have hn := hnx S2 (hF.tr f2)
      rw [cD, fD] at hn
      by_cases q : p i = true
      · rw [if_pos q, if_pos q, ← nI_add] at hn
        rw [q, if_neg (show ¬ b2i true = 0 by decide)]
        unfold J_X7_fits_65
        simp only [nmI]
        rw [if_neg (show ¬ b2i true = 0 by decide), Int32.add_comm (nI (cD p k (i + 1))) 1]
        exact hn
      · rw [if_neg q, if_neg q, Nat.zero_add] at hn
        rw [Bool.not_eq_true] at q
        rw [q, if_pos (show b2i false = 0 by decide)]
        unfold J_X7_fits_65
        simp only [nmI]
        rw [if_pos (show b2i false = 0 by decide), Int32.add_zero]
        exact hn
    have last : ∀ S1, FrL SM S1 → L_X7_fits_39 (RQ c SC1 r) 1 (nI j) x2 (nI (cD p 100 0)) (fD p 100 0) (-1) S1 := by
      intro S1 hF
      unfold L_X7_fits_39
      rw [if_pos (by decide)]
      have := hQ S1 hF
      by_cases c0 : x2 = 0
      · rw [if_pos c0] at this ⊢; exact this
      · rw [if_neg c0] at this ⊢; exact this
    have key : ∀ (i k : Nat) (S1 : St), i + 1 + k = 100 → FrL SM S1 → L_X7_fits_39 (RQ c SC1 r) (i + 2) (nI j) x2 (nI (cD p k (i + 1))) (fD p k (i + 1)) (nI i) S1 := by
      intro i
      induction i with
      | zero =>
        intro k S1 hk hF
        have e : k + 1 = 100 := by omega
        refine step 1 0 k _ S1 (by decide) hF rfl (fun S2 f2 => ?_)
        rw [e]
        exact last S2 f2
      | succ i ih =>
        intro k S1 hk hF
        refine step (i + 2) (i + 1) k _ S1 (by omega) hF rfl (fun S2 f2 => ?_)
        rw [pk_m1]
        exact ih (k + 1) S2 (by omega) f2
    exact ⟨101, key 99 0 SM (by decide) FrL.rf⟩
  have fin : ∀ SC1, FrO 5 SC SC1 → (if x2 = 0 then E_X7_fits (nI j) x2 SM (RQ c SC1 (nI (cD p 100 0))) else if 0 ≤ fD p 100 0 then E_X7_fits (nI j) x2 SM (RQ c SC1 (fD p 100 0)) else E_X6_wrong 2 SC1 (fun v11 S10 => E_X7_fits (nI j) x2 SM (RQ c S10 v11))) := by
    intro SC1 hF
    by_cases c0 : x2 = 0
    · rw [if_pos c0]
      refine mod SC1 _ (fun S1 f1 => ?_)
      rw [if_pos c0]
      exact ⟨rfl, (R.think hF f1).up⟩
    · rw [if_neg c0]
      rcases fD_or p 100 0 (by decide) with e | ⟨a, ha, e⟩
      · rw [if_neg (by rw [e]; decide)]
        refine e_wrong 2 (by decide) rfl (mod _ _ (fun S1 f1 => ?_))
        rw [if_neg c0, if_pos e]
        exact e_error 2 (by decide) rfl ⟨rfl, ((R.think hF f1).err 2 (by decide)).up⟩
      · rw [if_pos (by rw [e]; exact nI_pos' (by omega))]
        refine mod SC1 _ (fun S1 f1 => ?_)
        rw [if_neg c0, if_neg (by rw [e]; exact fun q => absurd (show ¬ nI a < 0 from nI_pos (by omega)) (by rw [q]; decide))]
        exact ⟨rfl, (R.think hF f1).up⟩
  have key : ∀ (k i a : Nat) (y : Int32) (S1 : St), i + k = 100 → FrO 5 SC S1 → a + cD p k i = cD p 100 0 → (if 0 ≤ y then y else fD p k i) = fD p 100 0 → L_X6_fits_48 (fun r SC1 => E_X7_fits (nI j) x2 SM (RQ c SC1 r)) (k + 1) (nI j) x2 (nI a) y (nI i) S1 := by
    intro k
    induction k with
    | zero =>
      intro i a y S1 hi hF ha hy
      unfold L_X6_fits_48
      rw [if_pos (show (99 : Int32) < nI i from nI_lt (a := 99) (by omega) (by omega))]
      have := fin S1 hF
      rw [← hy, ← ha, cD, fD, Nat.add_zero] at this
      by_cases c0 : x2 = 0
      · rw [if_pos c0] at this ⊢; exact this
      · rw [if_neg c0] at this ⊢
        by_cases y0 : 0 ≤ y
        · rw [if_pos y0, if_pos y0] at this
          rw [if_pos y0]
          exact this
        · rw [if_neg y0, if_neg (by decide)] at this
          rw [if_neg y0]
          exact this
    | succ k ih =>
      intro i a y S1 hi hF ha hy
      unfold L_X6_fits_48
      rw [if_neg (show ¬ (99 : Int32) < nI i from nI_nlt (a := 99) (by omega) (by decide))]
      refine e_take (by decide) (hF.tb h1.1) h9 (fun S2 f2 _ t2 => ?_)
      refine e_dine (Or.inr rfl) h3.1 t2 (f2.lw (hF.lw hLC)) h3.2.1 (hgr i (by omega)).1 (hgr i (by omega)).2 (fun S3 f3 t3 => ?_)
      have hF3 : FrO 5 SC S3 := (hF.tr f2).tr f3.o
      have mI := mealT_inv (L := H.2.1) h3.1 (hgr i (by omega)).1 (hgr i (by omega)).2
      rw [nI_clamp (by omega)]
      refine ⟨hv, e_tells (g := g) g2 (by rw [mI.2.2.2]; exact h9) t3 (by rw [hF3.1 _ _ (by omega)]; exact g5) (fun q => by rw [hF3.2 _ _ (by omega) (by omega)]; exact hg q) ?_⟩
      rw [mI.2.2.2, ← hp i]
      simp only [nmI]
      rw [nI_1]
      rw [cD] at ha
      rw [fD] at hy
      by_cases q : p i = true
      · rw [if_pos q] at ha hy
        rw [q, if_neg (show ¬ b2i true = 0 by decide), nI_1]
        by_cases y0 : 0 ≤ y
        · rw [if_pos y0]
          rw [if_pos y0] at hy
          exact ih (i + 1) (a + 1) y S3 (by omega) hF3 (by omega) (by rw [if_pos y0]; exact hy)
        · rw [if_neg y0]
          rw [if_neg y0] at hy
          exact ih (i + 1) (a + 1) (nI i) S3 (by omega) hF3 (by omega) (by rw [if_pos (nI_pos' (by omega))]; exact hy)
      · rw [if_neg q] at ha hy
        rw [Bool.not_eq_true] at q
        rw [q, if_pos (show b2i false = 0 by decide)]
        exact ih (i + 1) a y S3 (by omega) hF3 (by omega) hy
  exact ⟨101, key 100 0 0 (-1) SC (by decide) FrO.rf (by omega) (by rw [if_neg (by decide)])⟩
