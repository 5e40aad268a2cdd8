/-! THE PAIR text -/
theorem Rel.hse0 {c : Nat} {SC SM SC1 SM1 : St} {H : HS} {z : Int32} {tp ws : List Int32} (R : Rel c SC SM) (h1 : hsC SC 1 H) (h2 : hsM SM H) (h3 : InvH H) (e1 : ∀ o k, o ≠ 1 → SC1.1 o k = SC.1 o k) (e2 : ∀ o k, o ≠ 1 → SC1.2 o k = SC.2 o k) (m1 : SM1.1 = SM.1) (m2 : ∀ k, k ≠ 0 → SM1.2 17 k = SM.2 17 k) (e : ∀ i, (i = 0 ∨ i = 1 ∨ (5 ≤ i ∧ i < 303)) → SM1.2 17 0 i = SM.2 17 0 i) (cz : SC1.1 1 7 = z) (mz : SM1.2 17 0 2 = z) (l1 : tp.length ≤ 60) (l2 : ws.length ≤ 24) (ct : SC1.1 1 4 = nI tp.length ∧ ∀ (j : Nat) (v : Int32), tp[j]? = some v → SC1.2 1 3 j = v) (cw : SC1.1 1 6 = nI ws.length ∧ ∀ (j : Nat) (v : Int32), ws[j]? = some v → SC1.2 1 5 j = v) (mt : SM1.2 17 0 3 = nI tp.length ∧ ∀ (j : Nat) (v : Int32), tp[j]? = some v → SM1.2 17 0 (303 + j) = v) (mw : SM1.2 17 0 4 = nI ws.length ∧ ∀ (j : Nat) (v : Int32), ws[j]? = some v → SM1.2 17 0 (363 + j) = v) : Rel c SC1 SM1 :=
  R.work0 (fun o ho => ⟨fun k => e1 o k (by omega), fun k => e2 o k (by omega)⟩) (by unfold rcon; rw [e1 _ _ (by decide), e1 _ _ (by decide), e1 _ _ (by decide), e1 _ _ (by decide)]; exact R.2.1) (fun k _ => by rw [m1]) (fun k hk => m2 k (by omega)) ⟨(H.1, H.2.1, z, tp, ws), hsC_1 h1 e1 e2 cz tp ws ct cw, hsM_1 h2 e h3 mz tp ws mt mw, h3.1, h3.2.1, h3.2.2.1, l1, l2⟩
theorem Rel.free {c : Nat} {SC SM SC1 SM1 : St} (R : Rel c SC SM) (hC : ∀ o, o ≠ 10 → o ≠ 11 → (∀ k, SC1.1 o k = SC.1 o k) ∧ ∀ k, SC1.2 o k = SC.2 o k) (m1 : ∀ k, (k = 3 ∨ k = 14) → SM1.1 17 k = SM.1 17 k) (m2 : ∀ k, (k = 0 ∨ k = 1 ∨ k = 4 ∨ k = 15 ∨ k = 18 ∨ k = 19 ∨ k = 20) → SM1.2 17 k = SM.2 17 k) : Rel c SC1 SM1 := by
  obtain ⟨H, h1, h2, h3⟩ := R.1
  refine R.work0 (fun o ho => hC o (by omega) (by omega)) ?_ m1 (fun k hk => m2 k (by omega)) ⟨H, hsC_fr h1 (fun o ho => hC o (by omega) (by omega)), hsM_fr h2 (m2 0 (by omega)), h3⟩
  have g := R.2.1
  unfold rcon at *
  rw [(hC 6 (by decide) (by decide)).1, (hC 6 (by decide) (by decide)).1, (hC 7 (by decide) (by decide)).1, (hC 7 (by decide) (by decide)).1]
  exact g
theorem e_copyT {S : St} {Q : Int32 → St → Prop} {u n : Nat} (hu : u < 2) (hn : n ≤ 60) (e7 : S.1 17 7 = nI n) (h : ∀ f : Nat → Int32, (∀ i, i < 2 * n → f (54 + 125 * u + i) = S.2 17 9 i) → (∀ p, ¬ (54 + 125 * u ≤ p ∧ p < 54 + 125 * u + 2 * n) → f p = S.2 17 0 p) → Q 1 (stR S 17 0 f)) : ∃ k, L_X7_text_101 Q k (nI (53 + 125 * u)) 0 S := by
  have i2 : (2 : Int32) * nI n = nI (2 * n) := by rw [show (2 : Int32) = nI 2 from rfl, pk_mul]
  have key : ∀ (m i : Nat) (f : Nat → Int32), i + m = 2 * n → (∀ a, a < i → f (54 + 125 * u + a) = S.2 17 9 a) → (∀ p, ¬ (54 + 125 * u ≤ p ∧ p < 54 + 125 * u + 2 * n) → f p = S.2 17 0 p) → L_X7_text_101 Q (m + 1) (nI (53 + 125 * u)) (nI i) (stR S 17 0 f) := by
    intro m
    induction m with
    | zero =>
      intro i f hi hf ho
      unfold L_X7_text_101
      rw [st_int, e7, i2, if_pos (nI_le (by omega) (by omega))]
      exact h f (fun a ha => hf a (by omega)) ho
    | succ m ih =>
      intro i f hi hf ho
      unfold L_X7_text_101
      rw [st_int, e7, i2, if_neg (nI_ge (show i < 2 * n by omega) (by omega)), nI_1, nI_add, nI_clamp (by omega), nI_clamp (by omega), st_same, st_ne (by omega)]
      refine ⟨vp_in_nI (by omega) (by decide), vp_in_nI (by omega) (by decide), ?_⟩
      simp only [nmS, nmI]
      rw [st_st, nI_1]
      refine ih (i + 1) _ (by omega) (fun a ha => ?_) (fun p hp => ?_)
      · by_cases q : a = i
        · rw [q, show 53 + 125 * u + 1 + i = 54 + 125 * u + i by omega, pk_us]
        · rw [pk_un (by omega)]; exact hf a (by omega)
      · rw [pk_un (by omega)]; exact ho p hp
  have := key (2 * n) 0 (S.2 17 0) (by omega) (fun a ha => absurd ha (Nat.not_lt_zero a)) (fun _ _ => rfl)
  rw [st_self] at this
  exact ⟨2 * n + 1, this⟩
theorem e_read {S : St} {Q : Int32 → St → Prop} {N u : Nat} (hN : N ≤ 60) (hu : u < 2) {r : PR} (hr : lvP (S.2 1 3) N (PQ (S.2 1 3) N u 5) 5 0 [] = r) (hr2 : r.2.1 ≤ N) (h1 : ∀ S1, (∀ o, o ≠ 10 → o ≠ 11 → (∀ k, S1.1 o k = S.1 o k) ∧ ∀ k, S1.2 o k = S.2 o k) → r.1 = true → r.2.1 = N → lwC S1 10 r.2.2 → Q (-1) S1) (h0 : ∀ S1, (∀ o, o ≠ 10 → o ≠ 11 → (∀ k, S1.1 o k = S.1 o k) ∧ ∀ k, S1.2 o k = S.2 o k) → ¬ (r.1 = true ∧ r.2.1 = N) → Q (nI r.2.1) S1) : E_X2_read 1 3 (nI N) (nI u) S Q := by
  unfold E_X2_read
  simp only [nmS]
  rw [if_neg (show ¬ (60 : Int32) < nI N from nI_nlt (a := 60) hN (by decide)), sI_same, nI_clamp (by omega), show (0 : Int32).toNatClampNeg = 0 by decide]
  refine ⟨⟨by decide, by decide, nI_pos (by omega), by omega, by omega⟩, ?_⟩
  rw [sI_row, sI_row]
  obtain ⟨S5, hS5⟩ : ∃ S5, stI (stI (stI (stR (stI S 11 2 (nI N)) 11 1 (va_cpy (S.2 1 3) (S.2 11 1) 0 0 N)) 11 3 0) 11 4 (nI u)) 11 5 0 = S5 := ⟨_, rfl⟩
  rw [hS5]
  have fr5 : ∀ o, o ≠ 10 → o ≠ 11 → (∀ k, S5.1 o k = S.1 o k) ∧ ∀ k, S5.2 o k = S.2 o k := by
    intro o q1 q2
    subst hS5
    exact ⟨fun k => by rw [sI_ne (by omega), sI_ne (by omega), sI_ne (by omega), st_int, sI_ne (by omega)], fun k => by rw [sI_row, sI_row, sI_row, st_ne (by omega), sI_row]⟩
  have cr : CR (S.2 1 3) N u (stI S5 10 4 0) 0 [] := by
    subst hS5
    refine ⟨?_, fun i hi => ?_, ?_, ?_, ?_, ?_, fun j t ht => absurd ht (by simp)⟩
    · rw [sI_ne (by omega), sI_ne (by omega), sI_ne (by omega), sI_ne (by omega), st_int, sI_same]
    · rw [sI_row, sI_row, sI_row, sI_row, st_same, pk_cpy_in (Nat.zero_le _) (by omega), Nat.zero_add, Nat.sub_zero]
    · rw [sI_ne (by omega), sI_ne (by omega), sI_same]
    · rw [sI_ne (by omega), sI_same]
    · rw [sI_ne (by omega), sI_ne (by omega), sI_ne (by omega), sI_same]; rfl
    · exact sI_same
  have go : E_X2_readLevel 0 0 (stI S5 10 4 0) (fun S8 => if (S8.1 11 5) = 0 then (if (S8.1 11 2) ≤ (S8.1 11 3) then (Q (-1) S8) else (Q (S8.1 11 3) S8)) else (Q (S8.1 11 3) S8)) := by
    refine cls_text hN hu _ 0 [] _ cr (Nat.zero_le _) (Nat.le_refl _) (fun S8 f8 y n => ?_)
    rw [hr] at y n
    have fr8 : ∀ o, o ≠ 10 → o ≠ 11 → (∀ k, S8.1 o k = S.1 o k) ∧ ∀ k, S8.2 o k = S.2 o k := fun o q1 q2 => ⟨fun k => by rw [f8.1 _ _ (by omega) (by omega), sI_ne (by omega)]; exact (fr5 o q1 q2).1 k, fun k => by rw [f8.2 _ _ (by omega), sI_row]; exact (fr5 o q1 q2).2 k⟩
    by_cases ho : r.1 = true
    · have c8 := y ho
      rw [if_pos c8.2.2.2.1, c8.1, c8.2.2.2.2.1]
      by_cases hp : r.2.1 = N
      · rw [if_pos (nI_le (by omega) (by omega))]
        exact h1 S8 fr8 ho hp c8.2.2.2.2.2
      · rw [if_neg (nI_ge (by omega) (by omega))]
        exact h0 S8 fr8 (fun x => hp x.2)
    · have ho2 := ho
      rw [Bool.not_eq_true] at ho2
      obtain ⟨n1, n2, -⟩ := n ho2
      rw [n1, if_neg (by decide), n2]
      exact h0 S8 fr8 (fun x => ho x.1)
  unfold E_X1_forget
  simp only [nmS]
  by_cases z : S5.1 10 4 ≤ 0
  · rw [if_pos z]; exact go
  · rw [if_neg z]; exact go
