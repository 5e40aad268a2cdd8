/-! LAWS: the reference's working out. -/
def prW (t : Int32) : Int32 := if t < 10000 then 0 else if t < 20000 then 1 else if t = 20033 then 2 else 3
/-- the byte of a use's name, by its place -/
def nmB (u k : Nat) : Nat := if u = 0 then (if k = 0 then 99 else if k = 1 then 97 else 115) else (if k = 0 then 102 else if k = 1 then 114 else 100)
def prV (u : Nat) (t : Int32) : Int32 := if t < 10000 then t else if t = 10000 then nI (nmB u 0) else if t = 10001 then nI (nmB u 1) else if t < 20000 then nI (nmB u 2) else if t = 20033 then 0 else t - 20000
theorem nmB_lt (u k : Nat) : nmB u k < 128 := by
  unfold nmB
  repeat' split
  all_goals decide
theorem vt_nm {t : Int32} (h : vt t) (h1 : ¬ t < 10000) (h2 : t < 20000) : t = 10000 ∨ t = 10001 ∨ t = 10002 := by
  rcases h with h | h | h | h | rfl | ⟨s, hs, rfl⟩
  · exact absurd (Int32.lt_iff_toInt_lt.mpr (by rw [show (10000 : Int32).toInt = 10000 by decide]; omega)) h1
  · exact Or.inl h
  · exact Or.inr (Or.inl h)
  · exact Or.inr (Or.inr h)
  · exact absurd h2 (by decide)
  · rcases hs with rfl | rfl | rfl | rfl | rfl | rfl | rfl | rfl | rfl | rfl <;> exact absurd h2 (by decide)
theorem worked_loop {u : Nat} (hu : u < 2) {ts : List Int32} {a b c : Int32} {Q : Int32 → St → Prop} (hl : ts.length ≤ 60) : ∀ (r : List Int32) (i n : Nat) (S : St), ts.drop i = r → i + r.length = ts.length → S.2 17 0 (53 + 125 * u) = nI ts.length → (∀ (j : Nat) (t : Int32), ts[j]? = some t → S.2 17 0 (53 + 125 * u + 1 + 2 * j) = prW t ∧ S.2 17 0 (53 + 125 * u + 2 + 2 * j) = prV u t) → S.2 17 10 (nmB u 0) = a → S.2 17 10 (nmB u 1) = b → S.2 17 10 (nmB u 2) = c → dpk r n → n ≤ i → Q ((evA a b c r (S.2 17 11) n).1 0) (stR S 17 11 (evA a b c r (S.2 17 11) n).1) → ∃ k, L_X7_worked_13 Q k (nI (53 + 125 * u)) (nI n) (nI i) S := by
  intro r
  induction r with
  | nil =>
    intro i n S hd hi h4 hrow ha hb hc hk hn hQ
    refine ⟨1, ?_⟩
    unfold L_X7_worked_13
    have e : i = ts.length := by simpa using hi
    rw [nI_clamp (by omega), h4, e, if_pos (nI_le (Nat.le_refl _) (by omega))]
    rw [show (evA a b c [] (S.2 17 11) n).1 = S.2 17 11 from rfl, st_self] at hQ
    exact ⟨vp_in_nI (by omega) (by decide), vp_in_nI (n := 0) (by decide) (by decide), hQ⟩
  | cons t r ih =>
    intro i n S hd hi h4 hrow ha hb hc hk hn hQ
    obtain ⟨hti, hdr⟩ := drop_cons hd
    have hi1 : i < ts.length := by simp at hi; omega
    have hi2 : i + 1 + r.length = ts.length := by simp at hi; omega
    obtain ⟨hv, hk⟩ := hk
    have go : ∀ (n' : Nat) (p : Nat → Int32), n' ≤ i + 1 → dpk r n' → evA a b c (t :: r) (S.2 17 11) n = evA a b c r p n' → ∃ k, L_X7_worked_13 Q k (nI (53 + 125 * u)) (nI n') (nI (i + 1)) (stR S 17 11 p) := by
      intro n' p h1 h2 h3
      refine ih (i + 1) n' (stR S 17 11 p) hdr hi2 ?_ (fun j v hj => ?_) ?_ ?_ ?_ h2 h1 ?_
      · rw [st_ne (by omega)]; exact h4
      · rw [st_ne (by omega)]; exact hrow j v hj
      · rw [st_ne (by omega)]; exact ha
      · rw [st_ne (by omega)]; exact hb
      · rw [st_ne (by omega)]; exact hc
      · rw [st_same, st_st, ← h3]
        exact hQ
    obtain ⟨hw, hvv⟩ := hrow i t hti
    have x1 : (nI (53 + 125 * u) + 1) + (2 * nI i) = nI (53 + 125 * u + 1 + 2 * i) := by
      rw [show (2 : Int32) = nI 2 from rfl, pk_mul, nI_1, nI_add]
    have x2 : (nI (53 + 125 * u) + 2) + (2 * nI i) = nI (53 + 125 * u + 2 + 2 * i) := by
      rw [show (2 : Int32) = nI 2 from rfl, pk_mul, nI_add, nI_add]
    have head : ∀ (k : Nat), (if prW t = 0 then (J_X7_worked_65 (L_X7_worked_13 Q k) Q (nI (53 + 125 * u)) (nI n) (nI i) (prW t) (prV u t) S) else (if prW t = 1 then (J_X7_worked_65 (L_X7_worked_13 Q k) Q (nI (53 + 125 * u)) (nI n) (nI i) (prW t) (prV u t) S) else (if prW t = 2 then (vp_in (nI n - 1) 64 ∧ (if (S.2 17 11 (nI n - 1).toNatClampNeg) = 0 then (vp_in (nI n - 1) 64 ∧ (nmS (stR S 17 11 (upd (S.2 17 11) (nI n - 1).toNatClampNeg 1)) (fun S17 => nmI (nI i + 1) (fun v18 => L_X7_worked_13 Q k (nI (53 + 125 * u)) (nI n) v18 S17)))) else (vp_in (nI n - 1) 64 ∧ (nmS (stR S 17 11 (upd (S.2 17 11) (nI n - 1).toNatClampNeg 0)) (fun S15 => nmI (nI i + 1) (fun v16 => L_X7_worked_13 Q k (nI (53 + 125 * u)) (nI n) v16 S15)))))) else (nmI (nI n + (-1)) (fun v10 => vp_in (v10 - 1) 64 ∧ (vp_in v10 64 ∧ (E_X7_joined (prV u t) (S.2 17 11 (v10 - 1).toNatClampNeg) (S.2 17 11 v10.toNatClampNeg) S (fun v12 S11 => vp_in (v10 - 1) 64 ∧ (nmS (stR S11 17 11 (upd (S11.2 17 11) (v10 - 1).toNatClampNeg v12)) (fun S13 => nmI (nI i + 1) (fun v14 => L_X7_worked_13 Q k (nI (53 + 125 * u)) v10 v14 S13))))))))))) → L_X7_worked_13 Q (k + 1) (nI (53 + 125 * u)) (nI n) (nI i) S := by
      intro k h
      unfold L_X7_worked_13
      rw [nI_clamp (by omega), h4, if_neg (nI_ge hi1 (by omega)), x1, x2]
      refine ⟨vp_in_nI (by omega) (by decide), vp_in_nI (by omega) (by decide), ?_⟩
      simp only [nmI]
      rw [nI_clamp (by omega), nI_clamp (by omega), hw, hvv]
      exact ⟨vp_in_nI (by omega) (by decide), h⟩
    by_cases h2 : t < 20000
    · rw [if_pos h2] at hk
      obtain ⟨k, hk9⟩ := go (n + 1) (upd (S.2 17 11) n (vl a b c t)) (by omega) hk (by simp only [evA, if_pos h2])
      refine ⟨k + 1, head k ?_⟩
      by_cases h3 : t < 10000
      · have e1 : prW t = 0 := by unfold prW; rw [if_pos h3]
        have e2 : prV u t = t := by unfold prV; rw [if_pos h3]
        rw [e1, e2, if_pos rfl]
        unfold J_X7_worked_65
        rw [if_pos rfl]
        show _ ∧ L_X7_worked_13 Q k (nI (53 + 125 * u)) (nI n + 1) (nI i + 1) (stR S 17 11 (upd (S.2 17 11) (nI n).toNatClampNeg t))
        rw [nI_1, nI_1, nI_clamp (by omega)]
        rw [show vl a b c t = t by unfold vl; rw [if_pos h3]] at hk9
        exact ⟨vp_in_nI (by omega) (by decide), hk9⟩
      · have e1 : prW t = 1 := by unfold prW; rw [if_neg h3, if_pos h2]
        obtain ⟨z, hz128, e2, ez⟩ : ∃ z : Nat, z < 128 ∧ prV u t = nI z ∧ S.2 17 10 z = vl a b c t := by
          unfold prV vl
          rw [if_neg h3, if_neg h3]
          rcases vt_nm hv h3 h2 with rfl | rfl | rfl
          · exact ⟨nmB u 0, nmB_lt u 0, by simp, by rw [ha]; simp⟩
          · exact ⟨nmB u 1, nmB_lt u 1, by simp, by rw [hb]; simp⟩
          · exact ⟨nmB u 2, nmB_lt u 2, by simp, by rw [hc]; simp⟩
        rw [e1, e2, if_neg (by decide), if_pos rfl]
        unfold J_X7_worked_65
        rw [if_neg (by decide)]
        show _ ∧ _ ∧ L_X7_worked_13 Q k (nI (53 + 125 * u)) (nI n + 1) (nI i + 1) (stR S 17 11 (upd (S.2 17 11) (nI n).toNatClampNeg (S.2 17 10 (nI z).toNatClampNeg)))
        rw [nI_1, nI_1, nI_clamp (by omega), nI_clamp (by omega), ez]
        exact ⟨vp_in_nI hz128 (by decide), vp_in_nI (by omega) (by decide), hk9⟩
    · rw [if_neg h2] at hk
      have h1 : ¬ t < 10000 := fun q => h2 (Int32.lt_iff_toInt_lt.mpr (by have := Int32.lt_iff_toInt_lt.mp q; rw [show (10000 : Int32).toInt = 10000 by decide] at this; rw [show (20000 : Int32).toInt = 20000 by decide]; omega))
      by_cases h3 : t = 20033
      · rw [if_pos h3] at hk
        obtain ⟨k, hk9⟩ := go n (upd (S.2 17 11) (n - 1) (if S.2 17 11 (n - 1) = 0 then 1 else 0)) (by omega) hk.2 (by simp only [evA, if_neg h2, if_pos h3])
        refine ⟨k + 1, head k ?_⟩
        have e1 : prW t = 2 := by unfold prW; rw [if_neg h1, if_neg h2, if_pos h3]
        rw [e1, if_neg (by decide), if_neg (by decide), if_pos rfl]
        have e1 : nI n - 1 = nI (n - 1) := pk_sub (a := n) (b := 1) hk.1
        rw [e1, nI_clamp (by omega)]
        have hv1 : vp_in (nI (n - 1)) 64 := vp_in_nI (by omega) (by omega)
        refine ⟨hv1, ?_⟩
        by_cases h5 : S.2 17 11 (n - 1) = 0
        · rw [if_pos h5]
          rw [if_pos h5] at hk9
          show _ ∧ L_X7_worked_13 Q k (nI (53 + 125 * u)) (nI n) (nI i + 1) (stR S 17 11 (upd (S.2 17 11) (n - 1) 1))
          rw [nI_1]
          exact ⟨hv1, hk9⟩
        · rw [if_neg h5]
          rw [if_neg h5] at hk9
          show _ ∧ L_X7_worked_13 Q k (nI (53 + 125 * u)) (nI n) (nI i + 1) (stR S 17 11 (upd (S.2 17 11) (n - 1) 0))
          rw [nI_1]
          exact ⟨hv1, hk9⟩
      · rw [if_neg h3] at hk
        obtain ⟨k, hk9⟩ := go (n - 1) (upd (S.2 17 11) (n - 2) (jn (t - 20000) (S.2 17 11 (n - 2)) (S.2 17 11 (n - 1)))) (by omega) hk.2 (by simp only [evA, if_neg h2, if_neg h3])
        refine ⟨k + 1, head k ?_⟩
        have e1 : prW t = 3 := by unfold prW; rw [if_neg h1, if_neg h2, if_neg h3]
        have e2 : prV u t = t - 20000 := by
          unfold prV
          rw [if_neg h1, if_neg (fun q => h2 (by rw [q]; decide)), if_neg (fun q => h2 (by rw [q]; decide)), if_neg h2, if_neg h3]
        rw [e1, e2, if_neg (by decide), if_neg (by decide), if_neg (by decide)]
        simp only [nmI, nmS]
        have e0 : nI n + (-1) = nI (n - 1) := by
          have := pk_m1 (n - 1)
          rwa [show n - 1 + 1 = n by omega] at this
        have e1 : nI (n - 1) - 1 = nI (n - 2) := by
          have := pk_sub (a := n - 1) (b := 1) (by omega)
          rwa [show n - 1 - 1 = n - 2 by omega] at this
        rw [e0, e1, nI_clamp (by omega), nI_clamp (by omega)]
        have hv1 : vp_in (nI (n - 1)) 64 := vp_in_nI (by omega) (by omega)
        have hv2 : vp_in (nI (n - 2)) 64 := vp_in_nI (by omega) (by omega)
        refine ⟨hv2, hv1, e_X7_joined _ _ _ _ _ (vt_op hv h2 h3).1 ⟨hv2, ?_⟩⟩
        rw [nI_1]
        exact hk9
