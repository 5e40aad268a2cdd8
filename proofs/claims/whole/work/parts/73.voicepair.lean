/-! THE PAIR voice -/
def wV (d m k v : Nat) : PF := fun n tr => if v = 0 then ((wS d k n tr).1, (wS d k n tr).2, 0) else if v = 1 then ((wA d m k k n tr).1, (wA d m k k n tr).2, 0) else if v = 2 then ((wR d m k k n tr).1, (wR d m k k n tr).2, 0) else wP d m k k n tr
theorem sayC {d m k v : Nat} {S : St} {n : Int32} {tr : List Int32} {Q : Int32 → St → Prop} (hk : k < 7) (hv : v ≤ 3) (hV : VC d m k S 0 tr) (hQ : ∀ S1, FrW S S1 → VC d m k S1 (wV d m k v n tr).2.2 (wV d m k v n tr).2.1 → Q (wV d m k v n tr).1 S1) : E_X5_say (nI v) (nI k) n 0 S Q := by
  rcases (show v = 0 ∨ v = 1 ∨ v = 2 ∨ v = 3 by omega) with rfl | rfl | rfl | rfl
  · exact cv_S hk 61 S 0 tr n 0 Q (by decide) hV hQ
  · exact cv_A hk hk 58 S 0 tr n 0 Q (by decide) hV hQ
  · exact cv_R hk hk 56 S 0 tr n 0 Q (by decide) hV hQ
  · exact cp_P hk hk 56 S 0 tr n 0 Q (by decide) hV hQ
theorem Rel.vo {c : Nat} {SC SM SC1 SM1 : St} {tr : List Int32} (R : Rel c SC SM) (fC : FrW SC SC1) (fM : FrY SM SM1) (hl : tr.length ≤ 30) (hC : SC1.1 12 1 = nI tr.length) (hM : SM1.1 17 14 = nI tr.length) (h : ∀ (j : Nat) (v : Int32), tr[j]? = some v → SC1.2 12 0 j = v ∧ SM1.2 17 15 j = v) : Rel c SC1 SM1 := by
  obtain ⟨⟨H, h1, h2, h3⟩, h67, ⟨im, k1, k2, k3, k4⟩, re, -, rs⟩ := R
  refine ⟨⟨H, hsC_fr h1 (fun o ho => ⟨fun k => fC.1 o k (by omega), fun k => fC.2 o k (by omega)⟩), hsM_fr h2 (fM.2 17 0 (by omega)), h3⟩, ?_, ⟨im, k1, by rw [fC.1 _ _ (by omega)]; exact k2, by rw [fM.1 _ _ (by omega)]; exact k3, k4.imp_right (fun ⟨K, a, b, d⟩ => ⟨K, hsC_fr a (fun o ho => ⟨fun k => fC.1 o k (by omega), fun k => fC.2 o k (by omega)⟩), hsM_fr b (by rw [kM, st_same, kM, st_same, fM.2 17 1 (by omega)]), d⟩)⟩, fun k hk => ?_, ⟨tr, hl, hC, hM, h⟩, fun j hj => ?_⟩
  · unfold rcon at *
    rw [fC.1 _ _ (by omega), fC.1 _ _ (by omega), fC.1 _ _ (by omega), fC.1 _ _ (by omega)]
    exact h67
  · rw [fC.2 _ _ (by omega), fM.2 _ _ (by omega)]; exact re k hk
  · rw [fC.1 _ _ (by omega), fC.1 _ _ (by omega), fC.2 _ _ (by omega), fM.2 _ _ (by omega), fM.2 _ _ (by omega), fM.2 _ _ (by omega)]
    exact rs j hj
theorem f_voice {c : Nat} {SC SM : St} (R : Rel c SC SM) (x1 x2 x3 : Int32) : E_X6_voice x1 x2 x3 SC (fun r SC1 => E_X7_voice x1 x2 x3 SM (RQ c SC1 r)) := by
  obtain ⟨H, h1, h2, h3⟩ := R.1
  have h9 := h3.1.1
  have bad1 : x1 < 0 ∨ nI H.1.1 ≤ x1 → E_X6_voice x1 x2 x3 SC (fun r SC1 => E_X7_voice x1 x2 x3 SM (RQ c SC1 r)) := fun hb => by
    unfold E_X6_voice
    refine has_no h1.1.1 hb ?_
    rw [if_pos rfl]
    refine e_wrong 1 (by decide) rfl (show E_X7_voice x1 x2 x3 SM (RQ c _ _) from ?_)
    unfold E_X7_voice
    refine dis_no h2.1.1 h9 hb ?_
    rw [if_pos rfl]
    exact e_error 1 (by decide) rfl ⟨rfl, (R.err 1 (by decide)).up⟩
  rcases pk_ix x1 (n := H.1.1) (by omega) with hb | hb | ⟨d, hd, rfl⟩
  · exact bad1 (Or.inl hb)
  · exact bad1 (Or.inr hb)
  unfold E_X6_voice
  refine has_ok h1.1.1 h9 hd ?_
  rw [if_neg (by decide)]
  rcases win x2 0 3 with hw | hw
  · refine w_no hw ?_
    rw [if_pos rfl]
    refine e_wrong 1 (by decide) rfl (show E_X7_voice (nI d) x2 x3 SM (RQ c _ _) from ?_)
    unfold E_X7_voice
    refine dis_ok h2.1.1 h9 hd ?_
    rw [if_neg (by decide)]
    refine i_no hw ?_
    rw [if_pos rfl]
    exact e_error 1 (by decide) rfl ⟨rfl, (R.err 1 (by decide)).up⟩
  refine w_ok hw ?_
  rw [if_neg (by decide)]
  obtain ⟨v, hv, rfl⟩ := win_nI (b := 3) (m := 3) rfl (by decide) hw
  have num : ∀ w M, w < 5 → mx w = (M : Nat) → ∃ k, k ≤ M ∧ H.1.2.2.2 w d = nI k := by
    intro w M hw5 hM
    have hk0 := h3.1.2.2 d hd w hw5
    obtain ⟨n, hn, e⟩ := nI_of (x := H.1.2.2.2 w d) (fun q => by have := Int32.lt_iff_toInt_lt.mp q; rw [Int32.toInt_zero] at this; omega)
    refine ⟨n, ?_, e⟩
    have := hk0.2
    rw [e, nI_toInt hn, hM] at this
    omega
  obtain ⟨k, hk, ek⟩ := num 0 6 (by decide) rfl
  obtain ⟨m, hm, em⟩ := num 1 9 (by decide) rfl
  have v9 : vp_in (nI d) 9 := vp_in_nI (by omega) (by decide)
  obtain ⟨r, hr⟩ : ∃ r, wV d m k v x3 [] = r := ⟨_, rfl⟩
  have mod : ∀ (SC1 : St) (z : Int32), (∀ S1, FrY SM S1 → VM d m k S1 r.2.2 r.2.1 → (if r.2.2 = 0 then RQ c SC1 z r.1 S1 else E_X7_error 6 S1 (fun v15 S14 => RQ c SC1 z v15 S14))) → E_X7_voice (nI d) (nI v) x3 SM (RQ c SC1 z) := by
    intro SC1 z h
    unfold E_X7_voice
    refine dis_ok h2.1.1 h9 hd ?_
    rw [if_neg (by decide)]
    refine i_ok hw ?_
    rw [if_neg (by decide)]
    simp only [nmS]
    have vm : VM d m k (stI (stI (stI SM 17 14 0) 17 16 (nI d)) 17 17 0) 0 [] := by
      refine ⟨by rw [sI_ne (by omega), sI_same], by rw [← ek]; exact h2.1.2.2.2 0 d (by decide) hd, by rw [← em]; exact h2.1.2.2.2 1 d (by decide) hd, sI_same, by rw [sI_ne (by omega), sI_ne (by omega), sI_same]; rfl, by decide, fun j t ht => absurd ht (by simp)⟩
    have fr : FrY SM (stI (stI (stI SM 17 14 0) 17 16 (nI d)) 17 17 0) := ((FrY.int (by omega)).tr (FrY.int (by omega))).tr (FrY.int (by omega))
    have J : ∀ S1, FrY (stI (stI (stI SM 17 14 0) 17 16 (nI d)) 17 17 0) S1 → VM d m k S1 r.2.2 r.2.1 → J_X7_voice_95 (RQ c SC1 z) r.1 S1 := by
      intro S1 f1 c1
      unfold J_X7_voice_95
      have q := h S1 (fr.tr f1) c1
      rw [c1.2.2.2.1]
      exact q
    refine e_kind (by omega) vm ?_
    rcases (show v = 0 ∨ v = 1 ∨ v = 2 ∨ v = 3 by omega) with rfl | rfl | rfl | rfl
    · rw [if_pos (by decide)]
      subst hr
      exact ms_S (by omega) 61 _ 0 [] x3 _ vm J
    · rw [if_neg (by decide), if_pos (by decide)]
      subst hr
      exact ma_A (by omega) (by omega) (by omega) 61 _ 0 [] x3 _ vm J
    · rw [if_neg (by decide), if_neg (by decide), if_pos (by decide)]
      subst hr
      exact mc_R (by omega) (by omega) (by omega) 61 _ 0 [] x3 _ vm J
    · rw [if_neg (by decide), if_neg (by decide), if_neg (by decide)]
      subst hr
      exact mp_P (by omega) (by omega) (by omega) 61 _ 0 [] x3 _ vm J
  unfold E_X5_speak
  simp only [nmS]
  rw [nI_clamp (by omega)]
  refine ⟨v9, v9, ?_⟩
  obtain ⟨S5, hS5⟩ : ∃ S5, stI (stI (stI (stI (stI SC 12 3 (SC.2 3 5 d)) 12 4 (nI d)) 12 5 ((stI (stI SC 12 3 (SC.2 3 5 d)) 12 4 (nI d)).2 3 6 d)) 12 1 0) 12 2 0 = S5 := ⟨_, rfl⟩
  rw [hS5]
  have f5 : FrW SC S5 := by
    rw [← hS5]
    exact (((FrW.int.tr FrW.int).tr FrW.int).tr FrW.int).tr FrW.int
  have vc : VC d m k S5 0 [] := by
    rw [← hS5]
    refine ⟨?_, ?_, ?_, sI_same, ?_, by decide, fun j t ht => absurd ht (by simp)⟩
    · rw [sI_ne (by omega), sI_ne (by omega), sI_ne (by omega), sI_ne (by omega), sI_same, ← ek]; exact h1.1.2.2.2 0 d (by decide) hd
    · rw [sI_ne (by omega), sI_ne (by omega), sI_ne (by omega), sI_same]
    · rw [sI_ne (by omega), sI_ne (by omega), sI_same, ← em]; exact h1.1.2.2.2 1 d (by decide) hd
    · rw [sI_ne (by omega), sI_same]; rfl
  rw [vc.1]
  refine sayC (by omega) hv vc (fun S1 f1 c1 => ?_)
  rw [hr] at c1 ⊢
  rw [c1.2.2.2.1]
  have rel : ∀ S2, FrY SM S2 → VM d m k S2 r.2.2 r.2.1 → Rel c S1 S2 := fun S2 f2 c2 => R.vo (f5.tr f1) f2 c1.2.2.2.2.2.1 c1.2.2.2.2.1 c2.2.2.2.2.1 (fun j t ht => ⟨c1.2.2.2.2.2.2 j t ht, c2.2.2.2.2.2.2 j t ht⟩)
  by_cases z : r.2.2 = 0
  · rw [if_pos z]
    refine mod S1 _ (fun S2 f2 c2 => ?_)
    rw [if_pos z]
    exact ⟨rfl, (rel S2 f2 c2).up⟩
  · rw [if_neg z]
    refine e_wrong 6 (by decide) rfl (mod _ _ (fun S2 f2 c2 => ?_))
    rw [if_neg z]
    exact e_error 6 (by decide) rfl ⟨rfl, ((rel S2 f2 c2).err 6 (by decide)).up⟩
