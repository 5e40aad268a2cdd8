/-! VOICES: what they say, and the bodies that begin -/
def psh (tr : List Int32) (x : Int32) : List Int32 := if tr.length < 30 then tr ++ [x] else tr
theorem psh_len {tr : List Int32} {x : Int32} (h : tr.length ≤ 30) : (psh tr x).length ≤ 30 := by
  unfold psh
  split
  · rw [List.length_append, List.length_singleton]; omega
  · exact h
/-- the class's voices: k, m, KIND, whether it parted, THE TRACE -/
def VC (d m k : Nat) (S : St) (pt : Int32) (tr : List Int32) : Prop := S.1 12 3 = nI k ∧ S.1 12 4 = nI d ∧ S.1 12 5 = nI m ∧ S.1 12 2 = pt ∧ S.1 12 1 = nI tr.length ∧ tr.length ≤ 30 ∧ ∀ (j : Nat) (v : Int32), tr[j]? = some v → S.2 12 0 j = v
def FrW (S S1 : St) : Prop := (∀ o k, ¬ (o = 12) → S1.1 o k = S.1 o k) ∧ ∀ o k, ¬ (o = 12) → S1.2 o k = S.2 o k
theorem FrW.rf {S : St} : FrW S S := ⟨fun _ _ _ => rfl, fun _ _ _ => rfl⟩
theorem FrW.tr {S S1 S2 : St} (h : FrW S S1) (g : FrW S1 S2) : FrW S S2 := ⟨fun o k q => (g.1 o k q).trans (h.1 o k q), fun o k q => (g.2 o k q).trans (h.2 o k q)⟩
theorem app_get {tr : List Int32} {x v : Int32} {j : Nat} (h : (tr ++ [x])[j]? = some v) : (j < tr.length ∧ tr[j]? = some v) ∨ (j = tr.length ∧ v = x) := by
  have hl : j < (tr ++ [x]).length := (List.getElem?_eq_some_iff.mp h).1
  rw [List.length_append, List.length_singleton] at hl
  rw [List.getElem?_append] at h
  by_cases q : j < tr.length
  · rw [if_pos q] at h; exact Or.inl ⟨q, h⟩
  · have e : j = tr.length := by omega
    subst e
    rw [if_neg q, Nat.sub_self] at h
    exact Or.inr ⟨rfl, (Option.some.inj h).symm⟩
theorem e_began {d m k : Nat} {S : St} {pt x : Int32} {tr : List Int32} {Q : St → Prop} (h : VC d m k S pt tr) (q : ∀ S1, FrW S S1 → VC d m k S1 pt (psh tr x) → Q S1) : E_X5_began x S Q := by
  obtain ⟨a1, a2, a3, a4, a5, a6, a7⟩ := h
  unfold E_X5_began
  rw [a5]
  by_cases e : tr.length < 30
  · rw [if_neg (show ¬ (30 : Int32) ≤ nI tr.length from nI_ge (b := 30) e (by decide)), nI_clamp (by omega)]
    refine ⟨vp_in_nI e (by decide), ?_⟩
    simp only [nmS]
    rw [st_int, a5, nI_1]
    have ep : psh tr x = tr ++ [x] := by unfold psh; rw [if_pos e]
    refine q _ ⟨fun o k q1 => sI_ne (by omega), fun o k q1 => st_ne (by omega)⟩ ⟨by rw [sI_ne (by omega)]; exact a1, by rw [sI_ne (by omega)]; exact a2, by rw [sI_ne (by omega)]; exact a3, by rw [sI_ne (by omega)]; exact a4, ?_, psh_len a6, fun j v hj => ?_⟩
    · rw [sI_same, ep, List.length_append, List.length_singleton]
    · rw [ep] at hj
      rw [sI_row, st_same]
      rcases app_get hj with ⟨q1, q2⟩ | ⟨q1, q2⟩
      · rw [pk_un (by omega)]; exact a7 j v q2
      · rw [q1, q2, pk_us]
  · rw [if_pos (show (30 : Int32) ≤ nI tr.length from nI_le (a := 30) (by omega) (by omega))]
    have ep : psh tr x = tr := by unfold psh; rw [if_neg e]
    rw [ep] at q
    exact q S FrW.rf ⟨a1, a2, a3, a4, a5, a6, a7⟩
def own : Nat → Nat → Nat → Nat
  | 0, _, _ => 0
  | n + 1, v, k => if sBOD (k * 4 + v) = 0 then own n v (upN k) else k
theorem e_ownerOf {v k : Nat} {S : St} {Q : Int32 → St → Prop} (hv : v < 4) (hk : k < 7) (h : Q (nI (own 7 v k)) S) : E_X5_ownerOf (nI v) (nI k) S Q := by
  have b0 : ∀ v, v < 4 → ¬ sBOD (0 * 4 + v) = 0 := by decide
  have key : ∀ (n k i : Nat), k < n → k < 7 → i + n = 7 → Q (nI (own n v k)) S → L_X5_ownerOf_4 Q n (nI v) (nI k) (nI i) S := by
    intro n
    induction n with
    | zero => intro k i h1; exact absurd h1 (Nat.not_lt_zero k)
    | succ n ih =>
      intro k i h1 h2 h3 h
      unfold L_X5_ownerOf_4
      rw [if_neg (show ¬ (7 : Int32) ≤ nI i from nI_ge (b := 7) (by omega) (by decide)), if_neg (nI_pos (by omega)), show (nI k * 4) + nI v = nI (k * 4 + v) by rw [show (4 : Int32) = nI 4 from rfl, pk_mul, nI_add], nI_clamp (by omega), nI_clamp (by omega)]
      refine ⟨vp_in_nI (by omega) (by decide), ?_⟩
      rw [own] at h
      by_cases e : sBOD (k * 4 + v) = 0
      · rw [if_pos e] at h ⊢
        have k0 : k ≠ 0 := fun x => b0 v hv (by rw [← x]; exact e)
        refine ⟨vp_in_nI (by omega) (by decide), ?_⟩
        simp only [nmI]
        rw [nI_1, sABV_up k h2 (by omega)]
        have := upN_lt (k := k) (by omega)
        exact ih (upN k) (i + 1) (by omega) (by omega) (by omega) h
      · rw [if_neg e] at h ⊢
        exact h
  exact ⟨7, key 7 k 0 hk hk (by decide) h⟩
/-- one body begins: the owner's, and the chain of tests on it -/
def bodC (D v o : Nat) (x3 x4 : Int32) (Q : Int32 → St → Prop) (S5 : St) : Prop := if sBOD (o * 4 + v) = 10 then (Q (x3 + (S5.1 12 4)) S5) else (if sBOD (o * 4 + v) = 11 then ((G_X5_say D).1 0 (S5.1 12 3) x3 (x4 + 1) S5 (fun v7 S6 => Q (v7 * 2) S6)) else (if sBOD (o * 4 + v) = 12 then ((G_X5_say D).1 1 (S5.1 12 3) x3 (x4 + 1) S5 (fun v9 S8 => Q (v9 - (S8.1 12 5)) S8)) else (if sBOD (o * 4 + v) = 13 then (E_X5_part x3 S5 (fun v11 S10 => Q v11 S10)) else (if sBOD (o * 4 + v) = 20 then ((G_X5_say D).1 0 (sABV o) x3 (x4 + 1) S5 (fun v13 S12 => Q (v13 - 4) S12)) else (if sBOD (o * 4 + v) = 21 then ((G_X5_say D).1 3 (sABV o) x3 (x4 + 1) S5 (fun v15 S14 => (G_X5_say D).2 v15 x4 S14 (fun v17 S16 => Q v17 S16))) else (if sBOD (o * 4 + v) = 30 then ((G_X5_say D).1 1 (sABV o) x3 (x4 + 1) S5 (fun v19 S18 => Q (0 - v19) S18)) else (if sBOD (o * 4 + v) = 40 then ((G_X5_say D).1 2 (sABV o) (x3 / 2) (x4 + 1) S5 (fun v21 S20 => Q v21 S20)) else (if sBOD (o * 4 + v) = 50 then ((G_X5_say D).1 0 (sABV o) x3 (x4 + 1) S5 (fun v23 S22 => Q (v23 * 3) S22)) else (if sBOD (o * 4 + v) = 51 then ((G_X5_say D).1 2 (sABV o) x3 (x4 + 1) S5 (fun v25 S24 => Q (v25 ^^^ (S24.1 12 4)) S24)) else (if sBOD (o * 4 + v) = 60 then ((G_X5_say D).1 1 (sABV o) (x3 + 1) (x4 + 1) S5 (fun v27 S26 => Q v27 S26)) else (if sBOD (o * 4 + v) = 70 then (Q 9 S5) else (if sBOD (o * 4 + v) = 71 then ((G_X5_say D).1 1 (sABV o) x3 (x4 + 1) S5 (fun v29 S28 => Q (v29 + (S28.1 12 5)) S28)) else (Q 0 S5)))))))))))))
theorem e_say1 {d m k0 D v k o x4 : Nat} {S : St} {pt x3 : Int32} {tr : List Int32} {Q : Int32 → St → Prop} (h : VC d m k0 S pt tr) (hv : v < 4) (hk : k < 7) (ho : own 7 v k = o) (h4 : x4 ≤ 30) (q : ∀ S1, FrW S S1 → VC d m k0 S1 pt (psh tr (sBOD (o * 4 + v))) → bodC D v o x3 (nI x4) Q S1) : (G_X5_say (D + 1)).1 (nI v) (nI k) x3 (nI x4) S Q := by
  show B_X5_say (G_X5_say D).1 (G_X5_say D).2 (nI v) (nI k) x3 (nI x4) S Q
  have hol : ∀ v, v < 4 → ∀ k, k < 7 → own 7 v k < 7 := by decide
  have ho7 : o < 7 := by rw [← ho]; exact hol v hv k hk
  unfold B_X5_say
  refine e_ownerOf hv hk ?_
  rw [ho, if_neg (nI_pos (by omega)), if_pos (show nI x4 ≤ 30 from nI_le (b := 30) h4 (by decide)), show (nI o * 4) + nI v = nI (o * 4 + v) by rw [show (4 : Int32) = nI 4 from rfl, pk_mul, nI_add], nI_clamp (by omega), nI_clamp (by omega)]
  refine ⟨vp_in_nI (by omega) (by decide), ?_⟩
  simp only [nmI]
  exact ⟨vp_in_nI (by omega) (by decide), e_began h q⟩
