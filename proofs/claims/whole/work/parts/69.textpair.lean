/-! THE PAIR text -/
theorem Rel.hse0 {c : Nat} {SC SM SC1 SM1 : St} {H : HS} {z : Int32} {tp ws : List Int32} (R : Rel c SC SM) (h1 : hsC SC 1 H) (h2 : hsM SM H) (h3 : InvH H) (e1 : ∀ o k, o ≠ 1 → SC1.1 o k = SC.1 o k) (e2 : ∀ o k, o ≠ 1 → SC1.2 o k = SC.2 o k) (m1 : SM1.1 = SM.1) (m2 : ∀ k, k ≠ 0 → SM1.2 17 k = SM.2 17 k) (e : ∀ i, (i = 0 ∨ i = 1 ∨ (5 ≤ i ∧ i < 303)) → SM1.2 17 0 i = SM.2 17 0 i) (cz : SC1.1 1 7 = z) (mz : SM1.2 17 0 2 = z) (l1 : tp.length ≤ 60) (l2 : ws.length ≤ 24) (ct : SC1.1 1 4 = nI tp.length ∧ ∀ (j : Nat) (v : Int32), tp[j]? = some v → SC1.2 1 3 j = v) (cw : SC1.1 1 6 = nI ws.length ∧ ∀ (j : Nat) (v : Int32), ws[j]? = some v → SC1.2 1 5 j = v) (mt : SM1.2 17 0 3 = nI tp.length ∧ ∀ (j : Nat) (v : Int32), tp[j]? = some v → SM1.2 17 0 (303 + j) = v) (mw : SM1.2 17 0 4 = nI ws.length ∧ ∀ (j : Nat) (v : Int32), ws[j]? = some v → SM1.2 17 0 (363 + j) = v) : Rel c SC1 SM1 :=
  R.work0 (fun o ho => ⟨fun k => e1 o k (by omega), fun k => e2 o k (by omega)⟩) (by unfold rcon; rw [e1 _ _ (by decide), e1 _ _ (by decide), e1 _ _ (by decide), e1 _ _ (by decide)]; exact R.2.1) (fun k _ => by rw [m1]) (fun k hk => m2 k (by omega)) ⟨(H.1, H.2.1, z, tp, ws), hsC_1 h1 e1 e2 cz tp ws ct cw, hsM_1 h2 e h3 mz tp ws mt mw, h3.1, h3.2.1, h3.2.2.1, l1, l2⟩
theorem Rel.free {c : Nat} {SC SM SC1 SM1 : St} (R : Rel c SC SM) (hC : ∀ o, o ≠ 10 → o ≠ 11 → (∀ k, SC1.1 o k = SC.1 o k) ∧ ∀ k, SC1.2 o k = SC.2 o k) (m1 : ∀ k, (k = 3 ∨ k = 14) → SM1.1 17 k = SM.1 17 k) (m2 : ∀ k, (k = 0 ∨ k = 1 ∨ k = 4 ∨ k = 15 ∨ k = 18 ∨ k = 19 ∨ k = 20) → SM1.2 17 k = SM.2 17 k) : Rel c SC1 SM1 := by
  obtain ⟨H, h1, h2, h3⟩ := R.1
  refine R.work0 (fun o ho => hC o (by omega) (by omega)) ?_ m1 (fun k hk => m2 k (by omega)) ⟨H, hsC_fr h1 (fun o ho => hC o (by omega) (by omega)), hsM_fr h2 (m2 0 (by omega)), h3⟩
  have g := R.2.1
  unfold rcon at *
  rw [(hC 6 (by decide) (by decide)).1, (hC 6 (by decide) (by decide)).1, (hC 7 (by decide) (by decide)).1, (hC 7 (by decide) (by decide)).1]
  exact g
theorem e_copyT {S : St} {Q : Int32 → St → Prop} {u n : Nat} (hu : u < 2) (hn : n ≤ 60) (e7 : S.1 17 7 = nI n) (h : ∀ f : Nat → Int32, (∀ i, i < 2 * n → f (54 + 125 * u + i) = S.2 17 9 i) → (∀ p, ¬ (54 + 125 * u ≤ p ∧ p < 54 + 125 * u + 2 * n) → f p = S.2 17 0 p) → Q 1 (stR S 17 0 f)) : ∃ k, L_X7_text_101 Q k (nI (53 + 125 * u)) 0 S := by
  have i2 : (2 : Int32) * nI n = nI (2 * n) := by rw [show (2 : Int32) = nI 2 from rfl, pk_mul]
  have key : ∀ (m i : Nat) (f : Nat → Int32), i + m = 2 * n → (∀ a, a < i → f (54 + 125 * u + a) = S.2 17 9 a) → (∀ p, ¬ (54 + 125 * u ≤ p ∧ p < 54 + 125 * u + 2 * n) → f p = S.2 17 0 p) → L_X7_text_101 Q (m + 1) (nI (53 + 125 * u)) (nI i) (stR S 17 0 f) := by
    intro m
    induction m with
    | zero =>
      intro i f hi hf ho
      unfold L_X7_text_101
      rw [st_int, e7, i2, if_pos (nI_le (by omega) (by omega))]
      exact h f (fun a ha => hf a (by omega)) ho
    | succ m ih =>
      intro i f hi hf ho
      unfold L_X7_text_101
      rw [st_int, e7, i2, if_neg (nI_ge (show i < 2 * n by omega) (by omega)), nI_1, nI_add, nI_clamp (by omega), nI_clamp (by omega), st_same, st_ne (by omega)]
      refine ⟨vp_in_nI (by omega) (by decide), vp_in_nI (by omega) (by decide), ?_⟩
      simp only [nmS, nmI]
      rw [st_st, nI_1]
      refine ih (i + 1) _ (by omega) (fun a ha => ?_) (fun p hp => ?_)
      · by_cases q : a = i
        · rw [q, show 53 + 125 * u + 1 + i = 54 + 125 * u + i by omega, pk_us]
        · rw [pk_un (by omega)]; exact hf a (by omega)
      · rw [pk_un (by omega)]; exact ho p hp
  have := key (2 * n) 0 (S.2 17 0) (by omega) (fun a ha => absurd ha (Nat.not_lt_zero a)) (fun _ _ => rfl)
  rw [st_self] at this
  exact ⟨2 * n + 1, this⟩
theorem e_read {S : St} {Q : Int32 → St → Prop} {N u : Nat} (hN : N ≤ 60) (hu : u < 2) {r : PR} (hr : lvP (S.2 1 3) N (PQ (S.2 1 3) N u 5) 5 0 [] = r) (hr2 : r.2.1 ≤ N) (h1 : ∀ S1, (∀ o, o ≠ 10 → o ≠ 11 → (∀ k, S1.1 o k = S.1 o k) ∧ ∀ k, S1.2 o k = S.2 o k) → r.1 = true → r.2.1 = N → lwC S1 10 r.2.2 → Q (-1) S1) (h0 : ∀ S1, (∀ o, o ≠ 10 → o ≠ 11 → (∀ k, S1.1 o k = S.1 o k) ∧ ∀ k, S1.2 o k = S.2 o k) → ¬ (r.1 = true ∧ r.2.1 = N) → Q (nI r.2.1) S1) : E_X2_read 1 3 (nI N) (nI u) S Q := by
  unfold E_X2_read
  simp only [nmS]
  rw [if_neg (show ¬ (60 : Int32) < nI N from nI_nlt (a := 60) hN (by decide)), sI_same, nI_clamp (by omega), show (0 : Int32).toNatClampNeg = 0 by decide]
  refine ⟨⟨by decide, by decide, nI_pos (by omega), by omega, by omega⟩, ?_⟩
  rw [sI_row, sI_row]
  obtain ⟨S5, hS5⟩ : ∃ S5, stI (stI (stI (stR (stI S 11 2 (nI N)) 11 1 (va_cpy (S.2 1 3) (S.2 11 1) 0 0 N)) 11 3 0) 11 4 (nI u)) 11 5 0 = S5 := ⟨_, rfl⟩
  rw [hS5]
  have fr5 : ∀ o, o ≠ 10 → o ≠ 11 → (∀ k, S5.1 o k = S.1 o k) ∧ ∀ k, S5.2 o k = S.2 o k := by
    intro o q1 q2
    subst hS5
    exact ⟨fun k => by rw [sI_ne (by omega), sI_ne (by omega), sI_ne (by omega), st_int, sI_ne (by omega)], fun k => by rw [sI_row, sI_row, sI_row, st_ne (by omega), sI_row]⟩
  have cr : CR (S.2 1 3) N u (stI S5 10 4 0) 0 [] := by
    subst hS5
    refine ⟨?_, fun i hi => ?_, ?_, ?_, ?_, ?_, fun j t ht => absurd ht (by simp)⟩
    · rw [sI_ne (by omega), sI_ne (by omega), sI_ne (by omega), sI_ne (by omega), st_int, sI_same]
    · rw [sI_row, sI_row, sI_row, sI_row, st_same, pk_cpy_in (Nat.zero_le _) (by omega), Nat.zero_add, Nat.sub_zero]
    · rw [sI_ne (by omega), sI_ne (by omega), sI_same]
    · rw [sI_ne (by omega), sI_same]
    · rw [sI_ne (by omega), sI_ne (by omega), sI_ne (by omega), sI_same]; rfl
    · exact sI_same
  have go : E_X2_readLevel 0 0 (stI S5 10 4 0) (fun S8 => if (S8.1 11 5) = 0 then (if (S8.1 11 2) ≤ (S8.1 11 3) then (Q (-1) S8) else (Q (S8.1 11 3) S8)) else (Q (S8.1 11 3) S8)) := by
    refine cls_text hN hu _ 0 [] _ cr (Nat.zero_le _) (Nat.le_refl _) (fun S8 f8 y n => ?_)
    rw [hr] at y n
    have fr8 : ∀ o, o ≠ 10 → o ≠ 11 → (∀ k, S8.1 o k = S.1 o k) ∧ ∀ k, S8.2 o k = S.2 o k := fun o q1 q2 => ⟨fun k => by rw [f8.1 _ _ (by omega) (by omega), sI_ne (by omega)]; exact (fr5 o q1 q2).1 k, fun k => by rw [f8.2 _ _ (by omega), sI_row]; exact (fr5 o q1 q2).2 k⟩
    by_cases ho : r.1 = true
    · have c8 := y ho
      rw [if_pos c8.2.2.2.1, c8.1, c8.2.2.2.2.1]
      by_cases hp : r.2.1 = N
      · rw [if_pos (nI_le (by omega) (by omega))]
        exact h1 S8 fr8 ho hp c8.2.2.2.2.2
      · rw [if_neg (nI_ge (by omega) (by omega))]
        exact h0 S8 fr8 (fun x => hp x.2)
    · have ho2 := ho
      rw [Bool.not_eq_true] at ho2
      obtain ⟨n1, n2, -⟩ := n ho2
      rw [n1, if_neg (by decide), n2]
      exact h0 S8 fr8 (fun x => ho x.1)
  unfold E_X1_forget
  simp only [nmS]
  by_cases z : S5.1 10 4 ≤ 0
  · rw [if_pos z]; exact go
  · rw [if_neg z]; exact go
theorem f_text {c : Nat} {SC SM : St} (R : Rel c SC SM) (x1 : Int32) : E_X6_text x1 SC (fun r SC1 => E_X7_text x1 SM (RQ c SC1 r)) := by
  obtain ⟨H, h1, h2, h3⟩ := R.1
  unfold E_X6_text
  rcases win x1 0 1 with hw | hw
  · refine us_no hw ?_
    rw [if_pos rfl]
    refine e_wrong 1 (by decide) rfl ?_
    unfold E_X7_text
    refine i_no hw ?_
    rw [if_pos rfl]
    exact e_error 1 (by decide) rfl ⟨rfl, (R.err 1 (by decide)).up⟩
  refine us_ok hw ?_
  rw [if_neg (by decide)]
  obtain ⟨u, hu, rfl⟩ := use_or hw
  have t60 := h3.2.2.2.1
  obtain ⟨N, hNe⟩ : ∃ N, H.2.2.2.1.length = N := ⟨_, rfl⟩
  rw [hNe] at t60
  have eC : SC.1 1 4 = nI N := by rw [← hNe]; exact h1.2.2.2.2.1.1
  have eM : SM.2 17 0 3 = nI N := by rw [← hNe]; exact h2.2.2.2.1.1
  have eB : ∀ i, i < N → SM.2 17 0 (303 + i) = SC.2 1 3 i := by
    intro i hi
    have hg : H.2.2.2.1[i]? = some H.2.2.2.1[i] := List.getElem?_eq_getElem (by omega)
    rw [h2.2.2.2.1.2 i _ hg, h1.2.2.2.2.1.2 i _ hg]
  obtain ⟨r, hr⟩ : ∃ r, lvP (SC.2 1 3) N (PQ (SC.2 1 3) N u 5) 5 0 [] = r := ⟨_, rfl⟩
  obtain ⟨-, r2, r3⟩ := lvP_ok (b := SC.2 1 3) (PQ_ok (b := SC.2 1 3) (N := N) hu 5) 5 0 [] (Nat.zero_le _)
  rw [hr] at r2 r3
  have R' : Rel c (stI SC 1 4 0) (stR SM 17 0 (upd (SM.2 17 0) 3 0)) := by
    refine Rel.hse0 R h1 h2 h3 (z := H.2.2.1) (tp := []) (ws := H.2.2.2.2) (fun o k ho => sI_ne (by omega)) (fun o k ho => rfl) rfl (fun k hk => st_ne (by omega)) (fun p hp => by rw [st_same, pk_un (by omega)]) ?_ ?_ (by decide) h3.2.2.2.2 ⟨sI_same, fun j v hj => absurd hj (by simp)⟩ ⟨?_, fun j v hj => ?_⟩ ⟨?_, fun j v hj => absurd hj (by simp)⟩ ⟨?_, fun j v hj => ?_⟩
    · rw [sI_ne (by omega)]; exact h1.2.2.2.1
    · rw [st_same, pk_un (by omega)]; exact h2.2.2.1
    · rw [sI_ne (by omega)]; exact h1.2.2.2.2.2.1
    · exact h1.2.2.2.2.2.2 j v hj
    · rw [st_same, pk_us]; rfl
    · rw [st_same, pk_un (by omega)]; exact h2.2.2.2.2.1
    · rw [st_same, pk_un (by omega)]; exact h2.2.2.2.2.2 j v hj
  have v3 : vp_in (3 : Int32) 387 := vp_in_nI (n := 3) (by decide) (by decide)
  have c3 : (3 : Int32).toNatClampNeg = 3 := by decide
  have ix : (53 : Int32) + (125 * nI u) = nI (53 + 125 * u) := by rw [show (53 : Int32) = nI 53 from rfl, show (125 : Int32) = nI 125 from rfl, pk_mul, nI_add]
  have vu : vp_in (nI (53 + 125 * u)) 387 := vp_in_nI (by omega) (by decide)
  have mod : ∀ (Q : Int32 → St → Prop), (∀ S7, S7.1 17 3 = SM.1 17 3 → S7.1 17 14 = SM.1 17 14 → (∀ k, k ≠ 9 → S7.2 17 k = SM.2 17 k) → (r.1 = true → r.2.1 = N → S7.1 17 7 = nI r.2.2.length → (∀ (j : Nat) (t : Int32), r.2.2[j]? = some t → S7.2 17 9 (2 * j) = prW t ∧ S7.2 17 9 (2 * j + 1) = prV u t) → J_X7_text_60 Q (nI u) 1 S7) ∧ (¬ (r.1 = true ∧ r.2.1 = N) → S7.1 17 5 = nI r.2.1 → J_X7_text_60 Q (nI u) 0 S7)) → E_X7_text (nI u) SM Q := by
    intro Q h
    unfold E_X7_text
    refine i_ok hw ?_
    rw [if_neg (by decide)]
    simp only [nmS]
    have mr : MR (SC.2 1 3) N u 0 (stI (stI (stI (stI SM 17 8 (nI u)) 17 5 0) 17 6 0) 17 7 0) 0 [] := by
      refine ⟨eM, eB, ?_, ?_, ?_, sI_same, fun j t ht => absurd ht (by simp)⟩
      · rw [sI_ne (by omega), sI_ne (by omega), sI_ne (by omega), sI_same]
      · rw [sI_ne (by omega), sI_ne (by omega), sI_same]; rfl
      · rw [sI_ne (by omega), sI_same]; rfl
    have fr : ∀ S7, FrV (stI (stI (stI (stI SM 17 8 (nI u)) 17 5 0) 17 6 0) 17 7 0) S7 → S7.1 17 3 = SM.1 17 3 ∧ S7.1 17 14 = SM.1 17 14 ∧ ∀ k, k ≠ 9 → S7.2 17 k = SM.2 17 k := by
      intro S7 f7
      refine ⟨?_, ?_, fun k hk => ?_⟩
      · rw [f7.1 _ _ (by omega), sI_ne (by omega), sI_ne (by omega), sI_ne (by omega), sI_ne (by omega)]
      · rw [f7.1 _ _ (by omega), sI_ne (by omega), sI_ne (by omega), sI_ne (by omega), sI_ne (by omega)]
      · rw [f7.2 _ _ (by omega)]; rfl
    refine mdl_text t60 hu _ 0 [] _ mr (Nat.zero_le _) (Nat.le_refl _) (fun S7 f7 ho c7 => ?_) (fun S7 f7 ho c7 => ?_)
    · rw [hr] at ho c7
      obtain ⟨g1, g2, g3⟩ := fr S7 f7
      obtain ⟨k1, k2⟩ := h S7 g1 g2 g3
      rw [if_neg (by decide), c3, c7.1, c7.2.2.2.1]
      refine ⟨v3, ?_⟩
      by_cases hp : r.2.1 = N
      · rw [if_pos (by rw [hp])]
        exact k1 ho hp c7.2.2.2.2.2.1 c7.2.2.2.2.2.2
      · rw [if_neg (fun x => hp ((nI_eq (by omega) (by omega)).mp x))]
        exact k2 (fun x => hp x.2) c7.2.2.2.1
    · rw [hr] at ho c7
      obtain ⟨g1, g2, g3⟩ := fr S7 f7
      rw [if_pos rfl]
      exact (h S7 g1 g2 g3).2 (fun x => by rw [ho] at x; exact Bool.false_ne_true x.1) c7
  rw [eC]
  refine e_read t60 hu hr r2 (fun S3 f3 ho hp l10 => ?_) (fun S3 f3 hno => ?_)
  · simp only [nmS]
    rw [if_pos (by decide)]
    obtain ⟨hlt, e, he, hel, hcod⟩ := r3 ho
    rw [List.nil_append] at he
    have hwf : wfT r.2.2 := by
      refine ⟨by rw [he]; omega, Or.inr ?_⟩
      have := hcod [] 0 rfl
      rw [List.append_nil] at this
      rw [he]
      exact this
    have l60 : r.2.2.length ≤ 60 := hwf.1
    refine e_lawOf hu ⟨okC_u hu, ?_⟩
    refine e_takeLaw (ts := r.2.2) (by omega) ⟨by rw [sI_ne (by omega)]; exact l10.1, l10.2⟩ hwf.1 (fun S9 i9 w9 l9 => ?_)
    refine mod _ (fun S7 g1 g2 g3 => ⟨fun _ _ e7 e9 => ?_, fun x => absurd ⟨ho, hp⟩ x⟩)
    unfold J_X7_text_60
    rw [c3]
    simp only [nmS, nmI]
    refine ⟨v3, ?_⟩
    rw [if_neg (by decide), ix, nI_clamp (by omega)]
    refine ⟨vu, ?_⟩
    refine e_copyT (n := r.2.2.length) hu hwf.1 e7 (fun f hf hfo => ⟨rfl, ?_⟩)
    obtain ⟨H'', k1, k2, k3⟩ := R'.1
    refine Rel.up (Rel.lawv0 R' k1 k2 k3 hu hwf (fun o q1 q2 q3 => ⟨fun k => ?_, fun k => ?_⟩) ?_ ?_ l9 (fun k hk => ?_) (fun k hk => ?_) (fun i hi hni => ?_) ⟨?_, fun j t ht => ?_⟩)
    · rw [i9 _ _ (by omega)]
      by_cases q : o = 1 ∧ k = 4
      · rw [q.1, q.2, sI_same, sI_same]
      · rw [sI_ne q, sI_ne q]; exact (f3 o q2 q3).1 k
    · rw [w9 _ _ (by omega), sI_row, sI_row]; exact (f3 o q2 q3).2 k
    · rw [i9 _ _ (by omega), sI_ne (by omega), sI_ne (by omega)]; exact (f3 (6 + u) (by omega) (by omega)).1 0
    · rw [i9 _ _ (by omega), sI_ne (by omega), sI_ne (by omega)]; exact (f3 (6 + u) (by omega) (by omega)).1 1
    · rcases hk with rfl | rfl
      · exact g1
      · exact g2
    · rw [st_ne (by omega), st_ne (by omega), st_ne (by omega), st_ne (by omega)]; exact g3 k (by omega)
    · rw [st_same, st_same, hfo i (by omega), st_same, pk_un (by omega), st_same, g3 0 (by decide)]
    · rw [st_same, hfo _ (by omega), st_same, pk_us]; exact e7
    · have hl : j < r.2.2.length := (List.getElem?_eq_some_iff.mp ht).1
      have x1 := hf (2 * j) (by omega)
      have x2 := hf (2 * j + 1) (by omega)
      rw [st_ne (by omega), st_ne (by omega)] at x1 x2
      rw [st_same, show 53 + 125 * u + 1 + 2 * j = 54 + 125 * u + 2 * j by omega, show 53 + 125 * u + 2 + 2 * j = 54 + 125 * u + (2 * j + 1) by omega, x1, x2]
      exact e9 j t ht
  · simp only [nmS]
    rw [if_neg (nI_pos (by omega))]
    refine mod _ (fun S7 g1 g2 g3 => ⟨fun ho hp => absurd ⟨ho, hp⟩ hno, fun _ e5 => ?_⟩)
    unfold J_X7_text_60
    rw [c3]
    simp only [nmS, nmI]
    refine ⟨v3, ?_⟩
    rw [if_pos trivial, st_int, e5]
    refine ⟨rfl, Rel.up (Rel.free R' (fun o q2 q3 => ⟨fun k => ?_, fun k => ?_⟩) (fun k hk => ?_) (fun k hk => ?_))⟩
    · by_cases q : o = 1 ∧ k = 4
      · rw [q.1, q.2, sI_same, sI_same]
      · rw [sI_ne q, sI_ne q]; exact (f3 o q2 q3).1 k
    · rw [sI_row, sI_row]; exact (f3 o q2 q3).2 k
    · rcases hk with rfl | rfl
      · exact g1
      · exact g2
    · by_cases k0 : k = 0
      · subst k0
        rw [st_same, st_same, g3 0 (by decide)]
      · rw [st_ne (by omega), st_ne (by omega)]; exact g3 k (by omega)
