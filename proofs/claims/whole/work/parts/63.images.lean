/-! PAIRS OF CALLS: image, restore -/
def FrH (o : Nat) (S S1 : St) : Prop := (∀ a k, a ≠ o → a ≠ o + 2 → ¬ ((a = 4 + 2 * o ∨ a = 5 + 2 * o) ∧ k = 4) → S1.1 a k = S.1 a k) ∧ ∀ a k, a ≠ o → a ≠ o + 2 → a ≠ 4 + 2 * o → a ≠ 5 + 2 * o → ¬ (k = 3 ∧ (a = 6 ∨ a = 7)) → S1.2 a k = S.2 a k
theorem FrH.rf {o : Nat} {S : St} : FrH o S S := ⟨fun _ _ _ _ _ => rfl, fun _ _ _ _ _ _ _ => rfl⟩
theorem FrH.tr {o : Nat} {S S1 S2 : St} (h : FrH o S S1) (g : FrH o S1 S2) : FrH o S S2 := ⟨fun a k q q2 q3 => (g.1 a k q q2 q3).trans (h.1 a k q q2 q3), fun a k q q2 q3 q4 q5 => (g.2 a k q q2 q3 q4 q5).trans (h.2 a k q q2 q3 q4 q5)⟩
theorem e_takeLaw {S : St} {Q : St → Prop} {o p : Nat} {ts : List Int32} (hop : o ≠ p) (hb : lwC S p ts) (h60 : ts.length ≤ 60) (h : ∀ S1, (∀ a k, ¬ (a = o ∧ k = 4) → S1.1 a k = S.1 a k) → (∀ a k, ¬ (a = o ∧ k = 2) → S1.2 a k = S.2 a k) → lwC S1 o ts → Q S1) : E_X1_takeFrom o p S Q := by
  unfold E_X1_takeFrom
  simp only [nmS]
  rw [sI_same, hb.1, nI_clamp (by omega), sI_row, sI_row, show (0 : Int32).toNatClampNeg = 0 by decide]
  refine ⟨⟨by decide, by decide, nI_pos (by omega), by omega, by omega⟩, h _ (fun a k q => sI_ne q) (fun a k q => st_ne q) ⟨?_, fun j t ht => ?_⟩⟩
  · exact sI_same
  · have hl : j < ts.length := (List.getElem?_eq_some_iff.mp ht).1
    rw [st_same, pk_cpy_in (Nat.zero_le _) (by omega), Nat.zero_add, Nat.sub_zero]
    exact hb.2 j t ht
theorem e_takeH {S : St} {Q : St → Prop} {o p : Nat} {H : HS} (hop : (o = 2 ∧ p = 1) ∨ (o = 1 ∧ p = 2)) (hb : hsC S p H) (hI : InvH H) (h : ∀ S1, FrH o S S1 → hsC S1 o H → Q S1) : E_X0_takeFrom o p S Q := by
  have r0 : rf o 0 = 4 + 2 * o ∧ rf o 1 = 5 + 2 * o ∧ rf o 2 = o + 2 ∧ rf p 0 = 4 + 2 * p ∧ rf p 1 = 5 + 2 * p ∧ rf p 2 = p + 2 := by
    rcases hop with ⟨rfl, rfl⟩ | ⟨rfl, rfl⟩
    · exact ⟨rfl, rfl, rfl, rfl, rfl, rfl⟩
    · exact ⟨rfl, rfl, rfl, rfl, rfl, rfl⟩
  obtain ⟨b1, b2, b3, b4, b5, b6⟩ := hb
  unfold E_X0_takeFrom
  rw [r0.1, r0.2.1, r0.2.2.1, r0.2.2.2.1, r0.2.2.2.2.1, r0.2.2.2.2.2]
  refine e_takeLaw (ts := H.2.1.1) (by omega) b2 hI.2.1.1.1 (fun S1 i1 w1 l1 => ?_)
  refine e_takeLaw (ts := H.2.1.2) (by omega) ⟨by rw [i1 _ _ (by omega)]; exact b3.1, fun j t ht => by rw [w1 _ _ (by omega)]; exact b3.2 j t ht⟩ hI.2.1.2.1 (fun S2 i2 w2 l2 => ?_)
  have t2 : tbC S2 (p + 2) H.1 := ⟨by rw [i2 _ _ (by omega), i1 _ _ (by omega)]; exact b1.1, by rw [i2 _ _ (by omega), i1 _ _ (by omega)]; exact b1.2.1, by rw [i2 _ _ (by omega), i1 _ _ (by omega)]; exact b1.2.2.1, fun w d hw hd => by rw [w2 _ _ (by omega), w1 _ _ (by omega)]; exact b1.2.2.2 w d hw hd⟩
  refine e_take (by omega) t2 hI.1.1 (fun S3 f3 _ t3 => ?_)
  have E1 : ∀ a k, a ≠ o + 2 → ¬ (a = 4 + 2 * o ∧ k = 4) → ¬ (a = 5 + 2 * o ∧ k = 4) → S3.1 a k = S.1 a k := fun a k q q2 q3 => by rw [f3.1 _ _ q, i2 _ _ q3, i1 _ _ q2]
  have E2 : ∀ a k, a ≠ o + 2 → a ≠ 4 + 2 * o → a ≠ 5 + 2 * o → ¬ (k = 3 ∧ (a = 6 ∨ a = 7)) → S3.2 a k = S.2 a k := fun a k q q2 q3 q4 => by rw [f3.2 _ _ q q4, w2 _ _ (by omega), w1 _ _ (by omega)]
  have c0 : (0 : Int32).toNatClampNeg = 0 := by decide
  have c60 : (60 : Int32).toNatClampNeg = 60 := by decide
  have c24 : (24 : Int32).toNatClampNeg = 24 := by decide
  simp only [nmS]
  rw [c0, c60, c24]
  refine ⟨⟨by decide, by decide, by decide, by decide, by decide⟩, ⟨by decide, by decide, by decide, by decide, by decide⟩, h _ ⟨fun a k q q2 q3 => ?_, fun a k q q2 q3 q4 q5 => ?_⟩ ⟨?_, ?_, ?_, ?_, ⟨?_, fun j v hj => ?_⟩, ?_, fun j v hj => ?_⟩⟩
  · rw [sI_ne (by omega), sI_ne (by omega), st_int, sI_ne (by omega), st_int]
    exact E1 a k q2 (by omega) (by omega)
  · rw [sI_row, sI_row, st_ne (by omega), sI_row, st_ne (by omega)]
    exact E2 a k q2 q3 q4 q5
  · refine ⟨?_, ?_, ?_, fun w d hw hd => ?_⟩
    · rw [sI_ne (by omega), sI_ne (by omega), st_int, sI_ne (by omega), st_int]; exact t3.1
    · rw [sI_ne (by omega), sI_ne (by omega), st_int, sI_ne (by omega), st_int]; exact t3.2.1
    · rw [sI_ne (by omega), sI_ne (by omega), st_int, sI_ne (by omega), st_int]; exact t3.2.2.1
    · rw [sI_row, sI_row, st_ne (by omega), sI_row, st_ne (by omega)]; exact t3.2.2.2 w d hw hd
  · refine ⟨?_, fun j t ht => ?_⟩
    · rw [sI_ne (by omega), sI_ne (by omega), st_int, sI_ne (by omega), st_int, f3.1 _ _ (by omega), i2 _ _ (by omega)]; exact l1.1
    · rw [sI_row, sI_row, st_ne (by omega), sI_row, st_ne (by omega), f3.2 _ _ (by omega) (by omega), w2 _ _ (by omega)]; exact l1.2 j t ht
  · refine ⟨?_, fun j t ht => ?_⟩
    · rw [sI_ne (by omega), sI_ne (by omega), st_int, sI_ne (by omega), st_int, f3.1 _ _ (by omega)]; exact l2.1
    · rw [sI_row, sI_row, st_ne (by omega), sI_row, st_ne (by omega), f3.2 _ _ (by omega) (by omega)]; exact l2.2 j t ht
  · rw [sI_same, sI_ne (by omega), st_int, sI_ne (by omega), st_int, E1 _ _ (by omega) (by omega) (by omega)]; exact b4
  · rw [sI_ne (by omega), sI_ne (by omega), st_int, sI_same, st_int, E1 _ _ (by omega) (by omega) (by omega)]; exact b5.1
  · have hl : j < H.2.2.2.1.length := (List.getElem?_eq_some_iff.mp hj).1
    have := hI.2.2.2.1
    rw [sI_row, sI_row, st_ne (by omega), sI_row, st_same, pk_cpy_in (Nat.zero_le _) (by omega), Nat.zero_add, Nat.sub_zero, E2 _ _ (by omega) (by omega) (by omega) (by omega)]
    exact b5.2 j v hj
  · rw [sI_ne (by omega), sI_same, st_int, sI_ne (by omega), st_int, E1 _ _ (by omega) (by omega) (by omega)]; exact b6.1
  · have hl : j < H.2.2.2.2.length := (List.getElem?_eq_some_iff.mp hj).1
    have := hI.2.2.2.2
    rw [sI_row, sI_row, st_same, sI_row, st_ne (by omega), pk_cpy_in (Nat.zero_le _) (by omega), Nat.zero_add, Nat.sub_zero, E2 _ _ (by omega) (by omega) (by omega) (by omega)]
    exact b6.2 j v hj
theorem hsM_ext {S S1 : St} {H : HS} (b : hsM S H) (hI : InvH H) (e : ∀ i, i < 387 → S1.2 17 0 i = S.2 17 0 i) : hsM S1 H := by
  obtain ⟨a1, ⟨a2, a3⟩, a4, a5, a6⟩ := b
  have h9 := hI.1.1
  have i1 := hI.2.1.1.1
  have i2 := hI.2.1.2.1
  have i3 := hI.2.2.2.1
  have i4 := hI.2.2.2.2
  refine ⟨⟨by rw [e _ (by omega)]; exact a1.1, by rw [e _ (by omega)]; exact a1.2.1, by rw [e _ (by omega)]; exact a1.2.2.1, fun w d hw hd => by rw [e _ (by omega)]; exact a1.2.2.2 w d hw hd⟩, ⟨⟨by rw [e _ (by omega)]; exact a2.1, fun j t ht => ?_⟩, by rw [e _ (by omega)]; exact a3.1, fun j t ht => ?_⟩, by rw [e _ (by omega)]; exact a4, ⟨by rw [e _ (by omega)]; exact a5.1, fun j v hj => ?_⟩, by rw [e _ (by omega)]; exact a6.1, fun j v hj => ?_⟩
  · have hl : j < H.2.1.1.length := (List.getElem?_eq_some_iff.mp ht).1
    rw [e _ (by omega), e _ (by omega)]; exact a2.2 j t ht
  · have hl : j < H.2.1.2.length := (List.getElem?_eq_some_iff.mp ht).1
    rw [e _ (by omega), e _ (by omega)]; exact a3.2 j t ht
  · have hl : j < H.2.2.2.1.length := (List.getElem?_eq_some_iff.mp hj).1
    rw [e _ (by omega)]; exact a5.2 j v hj
  · have hl : j < H.2.2.2.2.length := (List.getElem?_eq_some_iff.mp hj).1
    rw [e _ (by omega)]; exact a6.2 j v hj
theorem e_copyAll {S : St} {Q : St → Prop} {a b : Nat} (hab : a ≠ b) (h : ∀ f : Nat → Int32, (∀ i, i < 387 → f i = S.2 17 a i) → Q (stR S 17 b f)) : E_X7_copyAll 17 a 17 b S Q := by
  have key : ∀ (n i : Nat) (f : Nat → Int32), i + n = 387 → (∀ j, j < i → f j = S.2 17 a j) → L_X7_copyAll_2 17 a 17 b Q (n + 1) (nI i) (stR S 17 b f) := by
    intro n
    induction n with
    | zero =>
      intro i f hi hf
      unfold L_X7_copyAll_2
      rw [show i = 387 by omega, if_pos (by decide)]
      exact h f (fun j hj => hf j (by omega))
    | succ n ih =>
      intro i f hi hf
      unfold L_X7_copyAll_2
      rw [if_neg (show ¬ (387 : Int32) ≤ nI i from nI_ge (a := i) (b := 387) (by omega) (by decide)), nI_clamp (by omega), st_same, st_ne (by omega)]
      have v := vp_in_nI (n := i) (N := 387) (by omega) (by decide)
      refine ⟨v, v, ?_⟩
      simp only [nmS, nmI]
      rw [st_st, nI_1]
      refine ih (i + 1) _ (by omega) (fun j hj => ?_)
      by_cases q : j = i
      · rw [q, pk_us]
      · rw [pk_un q]; exact hf j (by omega)
  have := key 387 0 (S.2 17 b) (by decide) (fun j hj => absurd hj (Nat.not_lt_zero j))
  rw [st_self] at this
  exact ⟨388, this⟩
theorem hsC_fr3 {S S1 : St} {h : Nat} {H : HS} (b : hsC S h H) (e : ∀ o, (o = h ∨ o = h + 2 ∨ o = 4 + 2 * h ∨ o = 5 + 2 * h) → (∀ k, S1.1 o k = S.1 o k) ∧ ∀ k, ¬ (k = 3 ∧ (o = 4 + 2 * h ∨ o = 5 + 2 * h)) → S1.2 o k = S.2 o k) : hsC S1 h H := by
  obtain ⟨b1, b2, b3, b4, b5, b6⟩ := b
  obtain ⟨x1, y1⟩ := e h (by omega)
  obtain ⟨x2, y2⟩ := e (h + 2) (by omega)
  obtain ⟨x3, y3⟩ := e (4 + 2 * h) (by omega)
  obtain ⟨x4, y4⟩ := e (5 + 2 * h) (by omega)
  refine ⟨⟨by rw [x2]; exact b1.1, by rw [x2]; exact b1.2.1, by rw [x2]; exact b1.2.2.1, fun w d hw hd => by rw [y2 _ (by omega)]; exact b1.2.2.2 w d hw hd⟩, ⟨by rw [x3]; exact b2.1, fun j t ht => by rw [y3 _ (by omega)]; exact b2.2 j t ht⟩, ⟨by rw [x4]; exact b3.1, fun j t ht => by rw [y4 _ (by omega)]; exact b3.2 j t ht⟩, by rw [x1]; exact b4, ⟨by rw [x1]; exact b5.1, fun j v hj => ?_⟩, by rw [x1]; exact b6.1, fun j v hj => ?_⟩
  · rw [y1 _ (by omega)]; exact b5.2 j v hj
  · rw [y1 _ (by omega)]; exact b6.2 j v hj
theorem f_image {c : Nat} {SC SM : St} (R : Rel c SC SM) : E_X6_image SC (fun r SC1 => E_X7_image SM (RQ c SC1 r)) := by
  obtain ⟨⟨H, h1, h2, h3⟩, h67, ⟨im, k1, k2, k3, k4⟩, re, ⟨tr, t1, t2, t3, t4⟩, rs⟩ := R
  unfold E_X6_image
  refine e_takeH (Or.inl ⟨rfl, rfl⟩) h1 h3 (fun S1 f1 hK => ?_)
  simp only [nmS]
  rw [sI_same, f1.1 0 8 (by omega) (by omega) (by omega), k2, nI_1]
  unfold E_X7_image
  refine e_copyAll (by decide) (fun f hf => ?_)
  simp only [nmS]
  rw [sI_same, st_int, k3, nI_1]
  refine ⟨rfl, ⟨H, ?_, ?_, h3⟩, ?_, ⟨im + 1, by omega, sI_same, sI_same, Or.inr ⟨H, ?_, ?_, h3⟩⟩, fun k hk => ?_, ⟨tr, t1, ?_, ?_, fun j v hj => ?_⟩, fun j hj => ?_⟩
  · refine hsC_fr3 h1 (fun o ho => ⟨fun k => ?_, fun k q => ?_⟩)
    · rw [sI_ne (by omega)]; exact f1.1 o k (by omega) (by omega) (by omega)
    · rw [sI_row]
      exact f1.2 o k (by omega) (by omega) (by omega) (by omega) (by omega)
  · refine hsM_fr h2 ?_
    rw [sI_row]; exact st_ne (by omega)
  · unfold rcon at *
    rw [sI_ne (by omega), sI_ne (by omega), sI_ne (by omega), sI_ne (by omega), f1.1 _ _ (by omega) (by omega) (by omega), f1.1 _ _ (by omega) (by omega) (by omega), f1.1 _ _ (by omega) (by omega) (by omega), f1.1 _ _ (by omega) (by omega) (by omega)]
    exact h67
  · refine hsC_fr hK (fun o ho => ⟨fun k => sI_ne (by omega), fun k => rfl⟩)
  · refine hsM_ext h2 h3 (fun i hi => ?_)
    unfold kM
    rw [st_same, sI_row, st_same]
    exact hf i hi
  · rw [sI_row, sI_row, f1.2 0 7 (by omega) (by omega) (by omega) (by omega) (by omega), st_ne (by omega)]
    exact re k hk
  · rw [sI_ne (by omega), f1.1 _ _ (by omega) (by omega) (by omega)]; exact t2
  · rw [sI_ne (by omega), st_int]; exact t3
  · rw [sI_row, sI_row, f1.2 _ _ (by omega) (by omega) (by omega) (by omega) (by omega), st_ne (by omega)]
    exact t4 j v hj
  · rw [sI_ne (by omega), sI_ne (by omega), sI_row, sI_row, sI_row, sI_row, f1.1 _ _ (by omega) (by omega) (by omega), f1.1 _ _ (by omega) (by omega) (by omega), f1.2 _ _ (by omega) (by omega) (by omega) (by omega) (by omega), st_ne (by omega), st_ne (by omega), st_ne (by omega)]
    exact rs j hj
theorem f_restore {c : Nat} {SC SM : St} (hc : c < 2 ^ 31) (R : Rel c SC SM) : E_X6_restore SC (fun r SC1 => E_X7_restore SM (RQ c SC1 r)) := by
  obtain ⟨im, k1, k2, k3, k4⟩ := R.2.2.1
  unfold E_X6_restore
  rw [k2]
  rcases k4 with e | ⟨K, hK, hM, hI⟩
  · rw [e, if_pos (by decide)]
    refine e_wrong 2 (by decide) rfl ?_
    unfold E_X7_restore
    rw [k3, e]
    exact e_error 2 (by decide) rfl ⟨rfl, (R.err 2 (by decide)).up⟩
  · by_cases z : nI im = 0
    · rw [if_pos z]
      refine e_wrong 2 (by decide) rfl (show E_X7_restore SM (RQ c _ _) from ?_)
      unfold E_X7_restore
      rw [k3, if_pos z]
      exact e_error 2 (by decide) rfl ⟨rfl, (R.err 2 (by decide)).up⟩
    · rw [if_neg z]
      refine e_takeH (Or.inr ⟨rfl, rfl⟩) hK hI (fun S1 f1 hS1 => (show E_X7_restore SM (RQ c S1 (S1.1 3 3)) from ?_))
      unfold E_X7_restore
      rw [k3, if_neg z]
      refine e_copyAll (by decide) (fun f hf => ?_)
      rw [show (0 : Int32).toNatClampNeg = 0 by decide, st_same]
      have hM1 : hsM (stR SM 17 0 f) K := hsM_ext hM hI (fun i hi => by unfold kM; rw [st_same, st_same]; exact hf i hi)
      refine ⟨vp_in_nI (n := 0) (by decide) (by decide), ?_, R.work (fun o ho => ⟨fun k => f1.1 o k (by omega) (by omega) (by omega), fun k => f1.2 o k (by omega) (by omega) (by omega) (by omega) (by omega)⟩) ?_ (fun _ _ => rfl) (fun k hk => st_ne (by omega)) ⟨K, hS1, hM1, hI⟩⟩
      · rw [hS1.1.2.1]
        have := hM1.1.2.1
        rw [st_same] at this
        exact this.symm
      · have g := R.2.1
        unfold rcon at *
        rw [f1.1 _ _ (by omega) (by omega) (by omega), f1.1 _ _ (by omega) (by omega) (by omega), f1.1 _ _ (by omega) (by omega) (by omega), f1.1 _ _ (by omega) (by omega) (by omega)]
        exact g
