/-! TEXTS: the class's reader -/
def FrR (S S1 : St) : Prop := (∀ o k, ¬ (o = 10 ∧ k = 4) → ¬ (o = 11 ∧ (k = 3 ∨ k = 5)) → S1.1 o k = S.1 o k) ∧ ∀ o k, ¬ (o = 10 ∧ k = 2) → S1.2 o k = S.2 o k
theorem FrR.rf {S : St} : FrR S S := ⟨fun _ _ _ _ => rfl, fun _ _ _ => rfl⟩
theorem FrR.tr {S S1 S2 : St} (h : FrR S S1) (g : FrR S1 S2) : FrR S S2 := ⟨fun o k q q2 => (g.1 o k q q2).trans (h.1 o k q q2), fun o k q => (g.2 o k q).trans (h.2 o k q)⟩
theorem FrR.pl {S : St} {v : Int32} {k : Nat} (hk : k = 3 ∨ k = 5) : FrR S (stI S 11 k v) := ⟨fun _ _ _ q => sI_ne (fun e => q ⟨e.1, by rw [e.2]; exact hk⟩), fun _ _ _ => rfl⟩
/-- the reader at a place of its bytes, and its steps so far -/
def CR (b : Nat → Int32) (N u : Nat) (S : St) (p : Nat) (ts : List Int32) : Prop := S.1 11 2 = nI N ∧ (∀ i, i < N → S.2 11 1 i = b i) ∧ S.1 11 4 = nI u ∧ S.1 11 5 = 0 ∧ S.1 11 3 = nI p ∧ lwC S 10 ts
def Cls (b : Nat → Int32) (N u : Nat) (f : Nat → List Int32 → PR) (E : St → (St → Prop) → Prop) : Prop := ∀ (S : St) (p : Nat) (ts : List Int32) (Q : St → Prop), CR b N u S p ts → p ≤ N → ts.length ≤ p → (∀ S1, FrR S S1 → ((f p ts).1 = true → CR b N u S1 (f p ts).2.1 (f p ts).2.2) → ((f p ts).1 = false → S1.1 11 5 = 1 ∧ S1.1 11 3 = nI (f p ts).2.1 ∧ ∃ n : Nat, S1.1 10 4 = nI n ∧ n ≤ 60) → Q S1) → E S Q
theorem CR.at {b : Nat → Int32} {N u : Nat} {S : St} {p p1 : Nat} {ts : List Int32} (h : CR b N u S p ts) {v : Int32} (hv : v = nI p1) : CR b N u (stI S 11 3 v) p1 ts := by
  obtain ⟨a1, a2, a3, a4, a5, a6⟩ := h
  exact ⟨by rw [sI_ne (by omega)]; exact a1, a2, by rw [sI_ne (by omega)]; exact a3, by rw [sI_ne (by omega)]; exact a4, by rw [sI_same]; exact hv, by rw [lwC, sI_ne (by omega)]; exact a6⟩
theorem e_next {b : Nat → Int32} {N u : Nat} {S : St} {p : Nat} {ts : List Int32} {Q : Int32 → St → Prop} (hN : N ≤ 60) (h : CR b N u S p ts) (hp : p ≤ N) (q : Q (nxb b N p) S) : E_X2_next S Q := by
  unfold E_X2_next
  rw [h.1, h.2.2.2.2.1]
  unfold nxb at q
  by_cases e : N ≤ p
  · rw [if_pos e] at q
    rw [if_pos (nI_le e (by omega))]
    exact q
  · rw [if_neg e] at q
    rw [if_neg (nI_ge (by omega) (by omega)), nI_clamp (by omega), h.2.1 p (by omega)]
    exact ⟨vp_in_nI (by omega) (by decide), q⟩
theorem e_add {b : Nat → Int32} {N u : Nat} {S : St} {p : Nat} {ts : List Int32} {t : Int32} {Q : St → Prop} (hN : N ≤ 60) (h : CR b N u S p ts) (hp : p ≤ N) (hl : ts.length < p) (q : ∀ S1, FrR S S1 → CR b N u S1 p (ts ++ [t]) → Q S1) : E_X1_add 10 t S Q := by
  obtain ⟨a1, a2, a3, a4, a5, a6, a7⟩ := h
  unfold E_X1_add
  rw [a6, if_neg (show ¬ (60 : Int32) ≤ nI ts.length from nI_ge (b := 60) (by omega) (by decide)), nI_clamp (by omega)]
  refine ⟨vp_in_nI (by omega) (by decide), ?_⟩
  simp only [nmS]
  rw [st_int, a6, nI_1]
  refine q _ ⟨fun o k q1 _ => sI_ne q1, fun o k q1 => st_ne q1⟩ ⟨by rw [sI_ne (by omega)]; exact a1, fun i hi => by rw [sI_row, st_ne (by omega)]; exact a2 i hi, by rw [sI_ne (by omega)]; exact a3, by rw [sI_ne (by omega)]; exact a4, by rw [sI_ne (by omega)]; exact a5, ?_, fun j v hj => ?_⟩
  · rw [sI_same, List.length_append, List.length_singleton]
  · rw [sI_row, st_same]
    rw [List.getElem?_append] at hj
    by_cases e : j < ts.length
    · rw [if_pos e] at hj
      rw [pk_un (by omega)]
      exact a7 j v hj
    · rw [if_neg e] at hj
      have e2 : j = ts.length := by
        have := (List.getElem?_eq_some_iff.mp hj).1
        simp at this
        omega
      subst e2
      rw [Nat.sub_self] at hj
      rw [pk_us]
      exact Option.some.inj hj
/-- past a fault nothing is told from a step more -/
theorem e_addF {S : St} {t : Int32} {Q : St → Prop} (h0 : ∃ n : Nat, S.1 10 4 = nI n ∧ n ≤ 60) (q : ∀ S1, FrR S S1 → S1.1 11 5 = S.1 11 5 → S1.1 11 3 = S.1 11 3 → (∃ n : Nat, S1.1 10 4 = nI n ∧ n ≤ 60) → Q S1) : E_X1_add 10 t S Q := by
  obtain ⟨n, e, hn⟩ := h0
  unfold E_X1_add
  rw [e]
  by_cases h : n = 60
  · rw [if_pos (show (60 : Int32) ≤ nI n by rw [h]; decide)]
    exact q S FrR.rf rfl rfl ⟨n, e, hn⟩
  · rw [if_neg (show ¬ (60 : Int32) ≤ nI n from nI_ge (b := 60) (by omega) (by decide)), nI_clamp (by omega)]
    refine ⟨vp_in_nI (by omega) (by decide), ?_⟩
    simp only [nmS]
    rw [st_int, e, nI_1]
    exact q _ ⟨fun o k q1 _ => sI_ne q1, fun o k q1 => st_ne q1⟩ (sI_ne (by omega)) (sI_ne (by omega)) ⟨n + 1, sI_same, by omega⟩
theorem e_levelOf {v : Int32} {l : Nat} {S : St} {Q : Int32 → St → Prop} (hl : l < 5) (h : ∀ r, (sgn l v = true ↔ r = nI l) → Q r S) : E_X2_levelOf v S Q := by
  unfold E_X2_levelOf
  by_cases e : v = 37
  · subst e; rw [if_pos rfl]; have f : ∀ l, l < 5 → (sgn l 37 = true ↔ (4 : Int32) = nI l) := by decide
    exact h 4 (f l hl)
  rw [if_neg e]
  by_cases e1 : v = 38
  · subst e1; rw [if_pos rfl]; have f : ∀ l, l < 5 → (sgn l 38 = true ↔ (1 : Int32) = nI l) := by decide
    exact h 1 (f l hl)
  rw [if_neg e1]
  by_cases e2 : v = 42
  · subst e2; rw [if_pos rfl]; have f : ∀ l, l < 5 → (sgn l 42 = true ↔ (4 : Int32) = nI l) := by decide
    exact h 4 (f l hl)
  rw [if_neg e2]
  by_cases e3 : v = 43
  · subst e3; rw [if_pos rfl]; have f : ∀ l, l < 5 → (sgn l 43 = true ↔ (3 : Int32) = nI l) := by decide
    exact h 3 (f l hl)
  rw [if_neg e3]
  by_cases e4 : v = 45
  · subst e4; rw [if_pos rfl]; have f : ∀ l, l < 5 → (sgn l 45 = true ↔ (3 : Int32) = nI l) := by decide
    exact h 3 (f l hl)
  rw [if_neg e4]
  by_cases e5 : v = 47
  · subst e5; rw [if_pos rfl]; have f : ∀ l, l < 5 → (sgn l 47 = true ↔ (4 : Int32) = nI l) := by decide
    exact h 4 (f l hl)
  rw [if_neg e5]
  by_cases e6 : v = 60
  · subst e6; rw [if_pos rfl]; have f : ∀ l, l < 5 → (sgn l 60 = true ↔ (2 : Int32) = nI l) := by decide
    exact h 2 (f l hl)
  rw [if_neg e6]
  by_cases e7 : v = 61
  · subst e7; rw [if_pos rfl]; have f : ∀ l, l < 5 → (sgn l 61 = true ↔ (2 : Int32) = nI l) := by decide
    exact h 2 (f l hl)
  rw [if_neg e7]
  by_cases e8 : v = 62
  · subst e8; rw [if_pos rfl]; have f : ∀ l, l < 5 → (sgn l 62 = true ↔ (2 : Int32) = nI l) := by decide
    exact h 2 (f l hl)
  rw [if_neg e8]
  by_cases e9 : v = 124
  · subst e9; rw [if_pos rfl]; have f : ∀ l, l < 5 → (sgn l 124 = true ↔ (0 : Int32) = nI l) := by decide
    exact h 0 (f l hl)
  rw [if_neg e9]
  refine h (-1) ?_
  have a : sgn l v = false := by
    unfold sgn
    simp [e, e1, e2, e3, e4, e5, e6, e7, e8, e9]
  rw [a]
  refine ⟨fun x => absurd x Bool.false_ne_true, fun x => ?_⟩
  have : ∀ l, l < 5 → ¬ (-1 : Int32) = nI l := by decide
  exact absurd x (this l hl)
theorem e_isDigit {v : Int32} {S : St} {Q : Int32 → St → Prop} (h : Q (b2i (digB v)) S) : E_X2_isDigit v S Q := by
  unfold E_X2_isDigit
  unfold digB at h
  by_cases h1 : v < 48
  · rw [if_pos h1]; rw [decide_eq_true h1] at h; exact h
  · rw [if_neg h1]; rw [decide_eq_false h1] at h
    by_cases h2 : 57 < v
    · rw [if_pos h2]; rw [decide_eq_true h2] at h; exact h
    · rw [if_neg h2]; rw [decide_eq_false h2] at h; exact h
theorem e_nameOf {v : Int32} {u : Nat} {S : St} {Q : Int32 → St → Prop} (hu : u < 2) (e4 : S.1 11 4 = nI u) (h : Q (if nmi u v < 3 then nI (nmi u v) else -1) S) : E_X2_nameOf v S Q := by
  have ix : ∀ i, ((nI u) * 3) + nI i = nI (u * 3 + i) := fun i => by rw [show (3 : Int32) = nI 3 from rfl, pk_mul, nI_add]
  have st : ∀ (n i : Nat), i < 3 → (if sNAM (3 * u + i) = v then Q (nI i) S else L_X2_nameOf_2 Q n v (nI (i + 1)) S) → L_X2_nameOf_2 Q (n + 1) v (nI i) S := by
    intro n i hi hh
    unfold L_X2_nameOf_2
    rw [if_neg (show ¬ (3 : Int32) ≤ nI i from nI_ge (b := 3) hi (by decide)), e4, ix, nI_clamp (by omega), Nat.mul_comm u 3]
    refine ⟨vp_in_nI (by omega) (by decide), ?_⟩
    simp only [nmI]
    rw [nI_1]
    exact hh
  refine ⟨4, st 3 0 (by decide) ?_⟩
  unfold nmi at h
  by_cases h0 : sNAM (3 * u) = v
  · rw [if_pos h0, if_pos (by decide)] at h
    rw [if_pos (by simpa using h0)]
    exact h
  rw [if_neg h0] at h
  rw [if_neg (by simpa using h0)]
  refine st 2 1 (by decide) ?_
  by_cases h1 : sNAM (3 * u + 1) = v
  · rw [if_pos h1, if_pos (by decide)] at h
    rw [if_pos h1]
    exact h
  rw [if_neg h1] at h
  rw [if_neg h1]
  refine st 1 2 (by decide) ?_
  by_cases h2 : sNAM (3 * u + 2) = v
  · rw [if_pos h2, if_pos (by decide)] at h
    rw [if_pos h2]
    exact h
  rw [if_neg h2, if_neg (by decide)] at h
  rw [if_neg h2]
  unfold L_X2_nameOf_2
  rw [if_pos (by decide)]
  exact h
theorem e_readNumber {b : Nat → Int32} {N u : Nat} {S : St} {p : Nat} {ts : List Int32} {Q : St → Prop} (hN : N ≤ 60) (h : CR b N u S p ts) (hp : p ≤ N) (hl : ts.length ≤ p) (hd : digB (nxb b N p) = true) (q : ∀ S1, FrR S S1 → CR b N u S1 (nuN b N 4 0 p).2 (ts ++ [(nuN b N 4 0 p).1]) → Q S1) : E_X2_readNumber S Q := by
  obtain ⟨z1, z2, -⟩ := nuN_1 (b := b) hd hp
  have key : ∀ (n i : Nat) (x : Int32) (p1 : Nat) (S1 : St), i + n = 4 → p1 ≤ N → FrR S S1 → CR b N u S1 p1 ts → nuN b N n x p1 = nuN b N 4 0 p → L_X2_readNumber_4 Q (n + 1) x (nI i) S1 := by
    intro n
    induction n with
    | zero =>
      intro i x p1 S1 hi hp1 hF hC he
      unfold L_X2_readNumber_4
      rw [show i = 4 by omega, if_pos (by decide)]
      rw [nuN] at he
      refine e_add hN hC hp1 ?_ (fun S2 f2 c2 => q S2 (hF.tr f2) ?_)
      · rw [← he] at z1; have z1 : p < p1 := z1; omega
      · rw [← he]; exact c2
    | succ n ih =>
      intro i x p1 S1 hi hp1 hF hC he
      unfold L_X2_readNumber_4
      rw [if_neg (show ¬ (4 : Int32) ≤ nI i from nI_ge (b := 4) (by omega) (by decide))]
      refine e_next hN hC hp1 (e_isDigit ?_)
      rw [nuN] at he
      by_cases d : digB (nxb b N p1) = true
      · rw [if_pos d] at he
        rw [d, if_neg (by decide)]
        refine e_next hN hC hp1 ?_
        simp only [nmI, nmS]
        have hlt : p1 < N := by
          obtain ⟨dd, hdd, e⟩ := dig_v d
          refine nxb_lt e ?_
          have : ∀ d, d < 10 → ¬ nI (48 + d) = -1 := by decide
          exact this dd hdd
        rw [hC.2.2.2.2.1, nI_1, nI_1]
        exact ih (i + 1) _ (p1 + 1) _ (by omega) (by omega) (hF.tr (FrR.pl (Or.inl rfl))) (hC.at rfl) he
      · rw [if_neg d] at he
        rw [Bool.not_eq_true] at d
        rw [d, if_pos (by decide)]
        refine e_add hN hC hp1 ?_ (fun S2 f2 c2 => q S2 (hF.tr f2) ?_)
        · rw [← he] at z1; have z1 : p < p1 := z1; omega
        · rw [← he]; exact c2
  exact ⟨5, key 4 0 0 p S (by decide) hp FrR.rf h rfl⟩
theorem CR.len {b : Nat → Int32} {N u : Nat} {S : St} {p : Nat} {ts : List Int32} (h : CR b N u S p ts) : S.1 10 4 = nI ts.length := h.2.2.2.2.2.1
theorem sgn60 {l : Nat} {v : Int32} (h : sgn l v = true) : ¬ v = -1 := (sgn_ne h).2
theorem cls_lev {b : Nat → Int32} {N u D l : Nat} {op : Int32} {q : Nat → List Int32 → PR} (hN : N ≤ 60) (hu : u < 2) (hl : l < 5) (hq : okP N q) (hC : Cls b N u q ((G_X2_readLevel D).1 (nI (l + 1)) op)) : Cls b N u (levP b N l (if l = 2 then 1 else 60) q) ((G_X2_readLevel (D + 1)).1 (nI l) op) := by
  intro S p ts Q hS hp ht hQ
  show B_X2_readLevel (G_X2_readLevel D).1 (G_X2_readLevel D).2 (nI l) op S Q
  unfold B_X2_readLevel
  rw [if_pos (show nI l < 5 from nI_lt (b := 5) hl (by decide)), nI_1]
  refine hC S p ts _ hS hp ht (fun S1 f1 y n => ?_)
  obtain ⟨a1, a2, a3⟩ := hq p ts hp
  obtain ⟨M, hM⟩ : ∃ M, (if l = 2 then 1 else 60) = M := ⟨_, rfl⟩
  have goal : L_X2_readLevel_34 (G_X2_readLevel D).1 (G_X2_readLevel D).2 Q (M + 1) (nI l) op (nI M) (nI 0) S1 := by
    have hM60 : M ≤ 60 := by rw [← hM]; split <;> decide
    rw [hM] at hQ
    have key : ∀ (m i p1 : Nat) (e1 : List Int32) (S2 : St), i + m = M → i ≤ p1 → p1 ≤ N → (ts ++ e1).length ≤ p1 → FrR S S2 → CR b N u S2 p1 (ts ++ e1) → loopP b N l q m p1 (ts ++ e1) = levP b N l M q p ts → L_X2_readLevel_34 (G_X2_readLevel D).1 (G_X2_readLevel D).2 Q (m + 1) (nI l) op (nI M) (nI i) S2 := by
      intro m
      induction m with
      | zero =>
        intro i p1 e1 S2 hi hip hp1 hl1 hF hc he
        unfold L_X2_readLevel_34
        rw [if_pos (nI_le (by omega) (by omega))]
        rw [loopP] at he
        exact hQ S2 hF (fun _ => by rw [← he]; exact hc) (fun x => by rw [← he] at x; exact absurd x (by simp))
      | succ m ih =>
        intro i p1 e1 S2 hi hip hp1 hl1 hF hc he
        unfold L_X2_readLevel_34
        rw [if_neg (nI_ge (show i < M by omega) (by omega)), if_pos hc.2.2.2.1]
        refine e_next hN hc hp1 (e_levelOf hl (fun r hr => ?_))
        rw [loopP] at he
        by_cases hs : sgn l (nxb b N p1) = true
        · rw [if_pos hs] at he
          rw [if_pos (hr.mp hs)]
          have hlt : p1 < N := nxb_lt rfl (sgn60 hs)
          refine e_next hN hc hp1 ?_
          simp only [nmS, nmI]
          rw [hc.2.2.2.2.1, nI_1, nI_1, nI_1]
          obtain ⟨b1, b2, b3⟩ := hq (p1 + 1) (ts ++ e1) (by omega)
          refine hC _ (p1 + 1) (ts ++ e1) _ (hc.at rfl) (by omega) (by omega) (fun S3 f3 y3 n3 => ?_)
          have hF3 : FrR S S3 := (hF.tr (FrR.pl (Or.inl rfl))).tr f3
          by_cases ho : (q (p1 + 1) (ts ++ e1)).1 = true
          · rw [if_pos ho] at he
            obtain ⟨b4, f, b5, b6, b7⟩ := b3 ho
            have c3 := y3 ho
            have len3 : (q (p1 + 1) (ts ++ e1)).2.2.length < (q (p1 + 1) (ts ++ e1)).2.1 := by rw [b5, List.length_append]; omega
            refine e_add hN c3 b2 len3 (fun S4 f4 c4 => ?_)
            rw [b5, List.append_assoc, List.append_assoc] at c4 he
            refine ih (i + 1) _ _ S4 (by omega) (by omega) b2 ?_ (hF3.tr f4) c4 he
            rw [← List.append_assoc, ← List.append_assoc, ← b5, List.length_append, List.length_singleton]
            omega
          · rw [if_neg ho] at he
            rw [Bool.not_eq_true] at ho
            obtain ⟨n1, n2, n3'⟩ := n3 ho
            refine e_addF n3' (fun S4 f4 g1 g2 g3 => ?_)
            have fin : Q S4 := hQ S4 (hF3.tr f4) (fun x => by rw [← he, ho] at x; exact absurd x (by simp)) (fun _ => ⟨g1.trans n1, by rw [← he]; exact g2.trans n2, g3⟩)
            unfold L_X2_readLevel_34
            by_cases w : nI M ≤ nI (i + 1)
            · rw [if_pos w]; exact fin
            · rw [if_neg w, g1, n1, if_neg (by decide)]; exact fin
        · rw [if_neg hs] at he
          rw [if_neg (fun x => hs (hr.mpr x))]
          exact hQ S2 hF (fun _ => by rw [← he]; exact hc) (fun x => by rw [← he] at x; exact absurd x (by simp))
    by_cases ho : (q p ts).1 = true
    · obtain ⟨a4, f, a5, a6, a7⟩ := a3 ho
      have c1 := y ho
      rw [a5] at c1
      refine key M 0 _ f S1 (by omega) (by omega) a2 (by rw [List.length_append]; omega) f1 c1 ?_
      unfold levP
      rw [if_pos ho, a5]
    · rw [Bool.not_eq_true] at ho
      obtain ⟨n1, n2, n3⟩ := n ho
      have he : levP b N l M q p ts = q p ts := by unfold levP; rw [if_neg (by rw [ho]; exact Bool.false_ne_true)]
      have fin : Q S1 := hQ S1 f1 (fun x => by rw [he, ho] at x; exact absurd x (by simp)) (fun _ => ⟨n1, by rw [he]; exact n2, n3⟩)
      unfold L_X2_readLevel_34
      rw [if_neg (show ¬ nI M ≤ nI 0 from nI_ge (by rw [← hM]; split <;> decide) (by omega)), n1, if_neg (by decide)]
      exact fin
  by_cases h2 : l = 2
  · rw [if_pos h2] at hM
    rw [if_pos (show nI l = 2 by rw [h2]; rfl)]
    subst hM
    exact ⟨_, goal⟩
  · rw [if_neg h2] at hM
    rw [if_neg (show ¬ nI l = 2 from fun x => h2 ((nI_eq (b := 2) (by omega) (by decide)).mp x))]
    subst hM
    exact ⟨_, goal⟩
theorem cls_Q {b : Nat → Int32} {N u D k : Nat} {q : Nat → List Int32 → PR} (hN : N ≤ 60) (hu : u < 2) (hk : k ≤ 5) (hq : k ≠ 0 → okP N q) (hC : k ≠ 0 → Cls b N u q ((G_X2_readLevel D).2 (nI (6 - k))) ∧ Cls b N u (lvP b N q 5) ((G_X2_readLevel D).1 0 (nI (6 - k)))) : Cls b N u (PQb b N u k q) ((G_X2_readLevel (D + 1)).2 (nI (5 - k))) := by
  intro S p ts Q hS hp ht hQ
  show B_X2_readQ (G_X2_readLevel D).1 (G_X2_readLevel D).2 (nI (5 - k)) S Q
  unfold B_X2_readQ
  refine e_next hN hS hp (e_nameOf hu hS.2.2.1 (e_isDigit ?_))
  have fault : PQb b N u k q p ts = (false, p, ts) → Q (stI S 11 5 1) := fun e => hQ _ (FrR.pl (Or.inr rfl)) (fun x => by rw [e] at x; exact absurd x Bool.false_ne_true) (fun _ => ⟨sI_same, by rw [sI_ne (by omega), e]; exact hS.2.2.2.2.1, ts.length, by rw [sI_ne (by omega)]; exact hS.len, by omega⟩)
  by_cases hd : digB (nxb b N p) = true
  · rw [hd, if_neg (by decide)]
    have e : PQb b N u k q p ts = (true, (nuN b N 4 0 p).2, ts ++ [(nuN b N 4 0 p).1]) := by unfold PQb; rw [if_pos hd]
    exact e_readNumber hN hS hp ht hd (fun S1 f1 c1 => hQ S1 f1 (fun _ => by rw [e]; exact c1) (fun x => by rw [e] at x; exact absurd x (by simp)))
  have hd2 := hd
  rw [Bool.not_eq_true] at hd2
  rw [hd2, if_pos (by decide)]
  by_cases hn : nmi u (nxb b N p) < 3
  · rw [if_pos hn, if_neg (nI_pos (by omega))]
    have hlt : p < N := nxb_lt rfl (nmi_lt hn hu)
    have e : PQb b N u k q p ts = (true, p + 1, ts ++ [10000 + nI (nmi u (nxb b N p))]) := by unfold PQb; rw [if_neg hd, if_pos hn]
    simp only [nmS]
    rw [hS.2.2.2.2.1, nI_1]
    exact e_add hN (hS.at rfl) (by omega) (by omega) (fun S1 f1 c1 => hQ S1 ((FrR.pl (Or.inl rfl)).tr f1) (fun _ => by rw [e]; exact c1) (fun x => by rw [e] at x; exact absurd x (by simp)))
  rw [if_neg hn, if_pos (by decide)]
  have e5 : (5 : Int32) ≤ nI (5 - k) ↔ k = 0 := by
    constructor
    · intro h
      have := (nI_leI (a := 5) (by decide) (by omega)).mp h
      omega
    · intro h
      rw [h]
      decide
  have J : k = 0 ∨ ¬ nxb b N p = 33 → J_X2_readQ_95 (G_X2_readLevel D).1 (G_X2_readLevel D).2 Q (nI (5 - k)) (nxb b N p) S := by
    intro hj
    unfold J_X2_readQ_95
    simp only [nmS]
    by_cases h40 : nxb b N p = 40
    · rw [if_pos h40]
      by_cases hk0 : k = 0
      · rw [if_pos (e5.mpr hk0)]
        exact fault (by unfold PQb; rw [if_neg hd, if_neg hn, if_pos hk0])
      · rw [if_neg (fun x => hk0 (e5.mp x))]
        have h33 := hj.resolve_left hk0
        have hlt : p < N := nxb_lt h40 (by decide)
        obtain ⟨a1, a2, a3⟩ := lvP_ok (b := b) (hq hk0) 5 (p + 1) ts (by omega)
        rw [hS.2.2.2.2.1, nI_1, nI_1, show 5 - k + 1 = 6 - k by omega]
        refine (hC hk0).2 _ (p + 1) ts _ (hS.at rfl) (by omega) (by omega) (fun S1 f1 y n => ?_)
        have hF : FrR S S1 := (FrR.pl (Or.inl rfl)).tr f1
        unfold E_X2_readClosing
        simp only [nmS]
        have e : PQb b N u k q p ts = (if (lvP b N q 5 (p + 1) ts).1 = true then (if nxb b N (lvP b N q 5 (p + 1) ts).2.1 = 41 then (true, (lvP b N q 5 (p + 1) ts).2.1 + 1, (lvP b N q 5 (p + 1) ts).2.2) else (false, (lvP b N q 5 (p + 1) ts).2.1, (lvP b N q 5 (p + 1) ts).2.2)) else lvP b N q 5 (p + 1) ts) := by
          unfold PQb
          rw [if_neg hd, if_neg hn, if_neg hk0, if_neg h33, if_pos h40]
        by_cases ho : (lvP b N q 5 (p + 1) ts).1 = true
        · rw [if_pos ho] at e
          obtain ⟨a4, f, a5, a6, a7⟩ := a3 ho
          have c1 := y ho
          rw [if_pos c1.2.2.2.1]
          refine e_next hN c1 a2 ?_
          by_cases h41 : nxb b N (lvP b N q 5 (p + 1) ts).2.1 = 41
          · rw [if_pos h41] at e
            rw [if_pos h41, c1.2.2.2.2.1, nI_1]
            exact hQ _ (hF.tr (FrR.pl (Or.inl rfl))) (fun _ => by rw [e]; exact c1.at rfl) (fun x => by rw [e] at x; exact absurd x (by simp))
          · rw [if_neg h41] at e
            rw [if_neg h41]
            exact hQ _ (hF.tr (FrR.pl (Or.inr rfl))) (fun x => by rw [e] at x; exact absurd x (by simp)) (fun _ => ⟨sI_same, by rw [sI_ne (by omega), e]; exact c1.2.2.2.2.1, _, by rw [sI_ne (by omega)]; exact c1.len, by rw [a5, List.length_append]; omega⟩)
        · rw [if_neg ho] at e
          have ho2 := ho
          rw [Bool.not_eq_true] at ho2
          obtain ⟨n1, n2, n3⟩ := n ho2
          rw [n1, if_neg (by decide)]
          obtain ⟨nn, n4, n5⟩ := n3
          exact hQ _ (hF.tr (FrR.pl (Or.inr rfl))) (fun x => by rw [e] at x; exact absurd x ho) (fun _ => ⟨sI_same, by rw [sI_ne (by omega), e]; exact n2, nn, by rw [sI_ne (by omega)]; exact n4, n5⟩)
    · rw [if_neg h40]
      refine fault ?_
      unfold PQb
      rw [if_neg hd, if_neg hn]
      by_cases hk0 : k = 0
      · rw [if_pos hk0]
      · rw [if_neg hk0, if_neg (hj.resolve_left hk0), if_neg h40]
  by_cases h33 : nxb b N p = 33
  · rw [if_pos h33]
    by_cases hk0 : k = 0
    · rw [if_pos (e5.mpr hk0)]
      exact J (Or.inl hk0)
    · rw [if_neg (fun x => hk0 (e5.mp x))]
      have hlt : p < N := nxb_lt h33 (by decide)
      obtain ⟨a1, a2, a3⟩ := hq hk0 (p + 1) ts (by omega)
      simp only [nmS]
      rw [hS.2.2.2.2.1, nI_1, nI_1, show 5 - k + 1 = 6 - k by omega]
      refine (hC hk0).1 _ (p + 1) ts _ (hS.at rfl) (by omega) (by omega) (fun S1 f1 y n => ?_)
      have hF : FrR S S1 := (FrR.pl (Or.inl rfl)).tr f1
      have e : PQb b N u k q p ts = (if (q (p + 1) ts).1 = true then (true, (q (p + 1) ts).2.1, (q (p + 1) ts).2.2 ++ [20033]) else q (p + 1) ts) := by
        unfold PQb
        rw [if_neg hd, if_neg hn, if_neg hk0, if_pos h33]
      by_cases ho : (q (p + 1) ts).1 = true
      · rw [if_pos ho] at e
        obtain ⟨a4, f, a5, a6, a7⟩ := a3 ho
        refine e_add hN (y ho) a2 (by rw [a5, List.length_append]; omega) (fun S2 f2 c2 => hQ S2 (hF.tr f2) (fun _ => by rw [e]; exact c2) (fun x => by rw [e] at x; exact absurd x (by simp)))
      · rw [if_neg ho] at e
        have ho2 := ho
        rw [Bool.not_eq_true] at ho2
        obtain ⟨n1, n2, n3⟩ := n ho2
        exact e_addF n3 (fun S2 f2 g1 g2 g3 => hQ S2 (hF.tr f2) (fun x => by rw [e] at x; exact absurd x ho) (fun _ => ⟨g1.trans n1, by rw [e]; exact g2.trans n2, g3⟩))
  · rw [if_neg h33]
    exact J (Or.inr h33)
theorem cls_lv {b : Nat → Int32} {N u : Nat} {op : Int32} {q : Nat → List Int32 → PR} (hN : N ≤ 60) (hu : u < 2) (hq : okP N q) {D : Nat} (hC : Cls b N u q ((G_X2_readLevel D).2 op)) : ∀ j, j ≤ 5 → Cls b N u (lvP b N q j) ((G_X2_readLevel (D + 1 + j)).1 (nI (5 - j)) op) := by
  intro j
  induction j with
  | zero =>
    intro _ S p ts Q hS hp ht hQ
    show B_X2_readLevel (G_X2_readLevel D).1 (G_X2_readLevel D).2 (nI 5) op S Q
    unfold B_X2_readLevel
    rw [if_neg (by decide)]
    exact hC S p ts _ hS hp ht hQ
  | succ j ih =>
    intro hj
    have := cls_lev (l := 4 - j) hN hu (by omega) (lvP_ok (b := b) hq j) (by rw [show 4 - j + 1 = 5 - j by omega]; exact ih (by omega))
    rw [show 5 - (j + 1) = 4 - j by omega, show D + 1 + (j + 1) = D + 1 + j + 1 by omega]
    unfold lvP
    by_cases h2 : j = 2
    · rw [if_pos (show 4 - j = 2 by omega)] at this
      rw [if_pos h2]
      exact this
    · rw [if_neg (show ¬ 4 - j = 2 by omega)] at this
      rw [if_neg h2]
      exact this
theorem cls_PQ {b : Nat → Int32} {N u : Nat} (hN : N ≤ 60) (hu : u < 2) : ∀ k, k ≤ 5 → ∀ D, Cls b N u (PQ b N u k) ((G_X2_readLevel (D + 7 * k + 1)).2 (nI (5 - k))) := by
  intro k
  induction k with
  | zero =>
    intro _ D
    exact cls_Q (k := 0) hN hu (by decide) (fun x => absurd rfl x) (fun x => absurd rfl x)
  | succ k ih =>
    intro hk D
    refine cls_Q (k := k + 1) (D := D + 7 * (k + 1)) hN hu hk (fun _ => PQ_ok hu k) (fun _ => ⟨?_, ?_⟩)
    · have := ih (by omega) (D + 6)
      rw [show 6 - (k + 1) = 5 - k by omega, show D + 7 * (k + 1) = D + 6 + 7 * k + 1 by omega]
      exact this
    · have := cls_lv (b := b) (u := u) (op := nI (5 - k)) hN hu (PQ_ok hu k) (ih (by omega) D) 5 (by decide)
      rw [show 6 - (k + 1) = 5 - k by omega, show D + 7 * (k + 1) = D + 7 * k + 1 + 1 + 5 by omega]
      exact this
theorem cls_text {b : Nat → Int32} {N u : Nat} (hN : N ≤ 60) (hu : u < 2) : Cls b N u (lvP b N (PQ b N u 5) 5) (E_X2_readLevel 0 0) := by
  have := cls_lv (b := b) (u := u) (op := nI 0) hN hu (PQ_ok hu 5) (cls_PQ hN hu 5 (by decide) 22) 5 (by decide)
  exact this
