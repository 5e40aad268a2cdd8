/-! TEXTS: the reference's Q, and the pair text -/
theorem dig_nm {u : Nat} {v : Int32} (hu : u < 2) (h : digB v = true) : ¬ nmi u v < 3 := by
  obtain ⟨d, hd, e⟩ := dig_v h
  subst e
  have : ∀ u, u < 2 → ∀ d, d < 10 → ¬ nmi u (nI (48 + d)) < 3 := by decide
  exact this u hu d hd
theorem mdl_num {b : Nat → Int32} {N u op D : Nat} {S : St} {p : Nat} {ts : List Int32} {Q : Int32 → St → Prop} (hN : N ≤ 60) (h : MR b N u op S p ts) (hp : p ≤ N) (hl : ts.length ≤ p) (hd : digB (nxb b N p) = true) (q : ∀ S1, FrV S S1 → MR b N u op S1 (nuN b N 4 0 p).2 (ts ++ [(nuN b N 4 0 p).1]) → Q 1 S1) : ∃ k, L_X7_one_46 (G_X7_whole D).1 (G_X7_whole D).2.1 (G_X7_whole D).2.2.1 (G_X7_whole D).2.2.2.1 (G_X7_whole D).2.2.2.2.1 (G_X7_whole D).2.2.2.2.2 Q k 0 0 S := by
  obtain ⟨z1, z2, y, hy, ey⟩ := nuN_1 (b := b) hd hp
  have fin : ∀ (x : Int32) (p1 : Nat) (S1 : St), p1 ≤ N → FrV S S1 → MR b N u op S1 p1 ts → (x, p1) = nuN b N 4 0 p → E_X7_step1 0 x S1 (fun S2 => Q 1 S2) := by
    intro x p1 S1 hp1 hF hC he
    have e1 : x = (nuN b N 4 0 p).1 := by rw [← he]
    have e2 : p1 = (nuN b N 4 0 p).2 := by rw [← he]
    subst e1
    subst e2
    rw [ey] at q ⊢
    exact e_step1 hN hC hp1 (by omega) (num_pr (u := u) hy).1 (num_pr hy).2 (fun S2 f2 c2 => q S2 (hF.tr f2) c2)
  have key : ∀ (n i : Nat) (x : Int32) (p1 : Nat) (S1 : St), i + n = 4 → p1 ≤ N → FrV S S1 → MR b N u op S1 p1 ts → nuN b N n x p1 = nuN b N 4 0 p → L_X7_one_46 (G_X7_whole D).1 (G_X7_whole D).2.1 (G_X7_whole D).2.2.1 (G_X7_whole D).2.2.2.1 (G_X7_whole D).2.2.2.2.1 (G_X7_whole D).2.2.2.2.2 Q (n + 1) x (nI i) S1 := by
    intro n
    induction n with
    | zero =>
      intro i x p1 S1 hi hp1 hF hC he
      unfold L_X7_one_46
      rw [show i = 4 by omega, if_pos (by decide)]
      exact fin x p1 S1 hp1 hF hC he
    | succ n ih =>
      intro i x p1 S1 hi hp1 hF hC he
      unfold L_X7_one_46
      rw [if_neg (show ¬ (4 : Int32) ≤ nI i from nI_ge (b := 4) (by omega) (by decide))]
      refine e_look hN hC hp1 (e_inD ?_)
      rw [nuN] at he
      by_cases d : digB (nxb b N p1) = true
      · rw [if_pos d] at he
        rw [d, if_neg (by decide)]
        refine e_look hN hC hp1 ?_
        simp only [nmI, nmS]
        have hlt : p1 < N := by
          obtain ⟨dd, hdd, e⟩ := dig_v d
          refine nxb_lt e ?_
          have : ∀ d, d < 10 → ¬ nI (48 + d) = -1 := by decide
          exact this dd hdd
        rw [hC.2.2.2.1, nI_1, nI_1, Int32.mul_comm 10 x]
        exact ih (i + 1) _ (p1 + 1) _ (by omega) (by omega) (hF.tr (FrV.int (by omega))) (hC.at rfl) he
      · rw [if_neg d] at he
        rw [Bool.not_eq_true] at d
        rw [d, if_pos (by decide)]
        exact fin x p1 S1 hp1 hF hC he
  exact ⟨5, key 4 0 0 p S (by decide) hp FrV.rf h rfl⟩
theorem e_opens {b : Nat → Int32} {N u op : Nat} {S : St} {p : Nat} {ts : List Int32} {Q : Int32 → St → Prop} (h : MR b N u op S p ts) (h5 : op ≤ 5) (q0 : op = 5 → Q 0 S) (q1 : op ≠ 5 → ∀ S1, FrV S S1 → MR b N u (op + 1) S1 (p + 1) ts → Q 1 S1) : E_X7_opens S Q := by
  unfold E_X7_opens
  rw [h.2.2.2.2.1]
  by_cases e : op = 5
  · rw [if_pos (show nI op = 5 by rw [e]; rfl)]; exact q0 e
  · rw [if_neg (show ¬ nI op = 5 from fun x => e ((nI_eq (b := 5) (by omega) (by decide)).mp x))]
    simp only [nmS]
    rw [sI_ne (show ¬ ((17 : Nat) = 17 ∧ (5 : Nat) = 6) by omega), h.2.2.2.1, nI_1, nI_1]
    exact q1 e _ ((FrV.int (by omega)).tr (FrV.int (by omega))) ((h.op rfl).at rfl)
theorem mdl_Q {b : Nat → Int32} {N u D k : Nat} {q : Nat → List Int32 → PR} (hN : N ≤ 60) (hu : u < 2) (hk : k ≤ 5) (hq : k ≠ 0 → okP N q) (hC : k ≠ 0 → Mdl b N u (6 - k) q (G_X7_whole D).2.2.2.2.2 ∧ Mdl b N u (6 - k) (lvP b N q 5) (G_X7_whole D).1) : Mdl b N u (5 - k) (PQb b N u k q) (G_X7_whole (D + 1)).2.2.2.2.2 := by
  intro S p ts Q hS hp ht hQ1 hQ0
  show B_X7_one _ _ _ _ _ _ S Q
  unfold B_X7_one
  refine e_look hN hS hp (e_isName hu hS.2.2.1 ?_)
  by_cases hd : digB (nxb b N p) = true
  · have e : PQb b N u k q p ts = (true, (nuN b N 4 0 p).2, ts ++ [(nuN b N 4 0 p).1]) := by unfold PQb; rw [if_pos hd]
    rw [e] at hQ1
    rw [decide_eq_false (dig_nm hu hd), if_pos (by decide)]
    refine e_inD ?_
    rw [hd, if_neg (by decide)]
    exact mdl_num hN hS hp ht hd (fun S1 f1 c1 => hQ1 S1 f1 rfl c1)
  have hd2 := hd
  rw [Bool.not_eq_true] at hd2
  by_cases hn : nmi u (nxb b N p) < 3
  · have hlt : p < N := nxb_lt rfl (nmi_lt hn hu)
    have e : PQb b N u k q p ts = (true, p + 1, ts ++ [10000 + nI (nmi u (nxb b N p))]) := by unfold PQb; rw [if_neg hd, if_pos hn]
    rw [e] at hQ1
    rw [decide_eq_true hn, if_neg (by decide)]
    simp only [nmS]
    rw [hS.2.2.2.1, nI_1]
    exact e_step1 hN (hS.at rfl) (by omega) (by omega) (nam_pr hu hn).1 (nam_pr hu hn).2 (fun S1 f1 c1 => hQ1 S1 ((FrV.int (by omega)).tr f1) rfl c1)
  rw [decide_eq_false hn, if_pos (by decide)]
  refine e_inD ?_
  rw [hd2, if_pos (by decide)]
  have fault : PQb b N u k q p ts = (false, p, ts) → Q 0 S := fun e => by
    rw [e] at hQ0
    exact hQ0 S FrV.rf rfl hS.2.2.2.1
  by_cases h33 : nxb b N p = 33
  · rw [if_pos h33]
    refine e_opens hS (by omega) (fun e5 => ?_) (fun e5 S1 f1 c1 => ?_)
    · rw [if_pos rfl]
      exact fault (by unfold PQb; rw [if_neg hd, if_neg hn, if_pos (by omega)])
    · have hk0 : k ≠ 0 := by omega
      have hlt : p < N := nxb_lt h33 (by decide)
      rw [if_neg (by decide)]
      have e : PQb b N u k q p ts = (if (q (p + 1) ts).1 = true then (true, (q (p + 1) ts).2.1, (q (p + 1) ts).2.2 ++ [20033]) else q (p + 1) ts) := by
        unfold PQb
        rw [if_neg hd, if_neg hn, if_neg hk0, if_pos h33]
      obtain ⟨a1, a2, a3⟩ := hq hk0 (p + 1) ts (by omega)
      rw [show 5 - k + 1 = 6 - k by omega] at c1
      refine (hC hk0).1 S1 (p + 1) ts _ c1 (by omega) (by omega) (fun S2 f2 ho c2 => ?_) (fun S2 f2 ho c2 => ?_)
      · rw [if_pos ho] at e
        rw [e] at hQ1
        rw [if_neg (by decide)]
        simp only [nmS]
        obtain ⟨a4, f, a5, a6, a7⟩ := a3 ho
        rw [c2.2.2.2.2.1, show (1 : Int32) = nI 1 from rfl, pk_sub (by omega), show 6 - k - 1 = 5 - k by omega]
        exact e_step1 (t := 20033) hN (c2.op rfl) a2 (by rw [a5, List.length_append]; omega) (by decide) (by rcases (show u = 0 ∨ u = 1 by omega) with rfl | rfl <;> decide) (fun S3 f3 c3 => hQ1 S3 (((f1.tr f2).tr (FrV.int (by omega))).tr f3) rfl c3)
      · rw [if_neg (by rw [ho]; exact Bool.false_ne_true)] at e
        rw [e] at hQ0
        rw [if_pos rfl]
        exact hQ0 S2 (f1.tr f2) ho c2
  rw [if_neg h33]
  by_cases h40 : nxb b N p = 40
  · rw [if_pos h40]
    refine e_opens hS (by omega) (fun e5 => ?_) (fun e5 S1 f1 c1 => ?_)
    · rw [if_pos rfl]
      exact fault (by unfold PQb; rw [if_neg hd, if_neg hn, if_pos (by omega)])
    · have hk0 : k ≠ 0 := by omega
      have hlt : p < N := nxb_lt h40 (by decide)
      rw [if_neg (by decide)]
      have e : PQb b N u k q p ts = (if (lvP b N q 5 (p + 1) ts).1 = true then (if nxb b N (lvP b N q 5 (p + 1) ts).2.1 = 41 then (true, (lvP b N q 5 (p + 1) ts).2.1 + 1, (lvP b N q 5 (p + 1) ts).2.2) else (false, (lvP b N q 5 (p + 1) ts).2.1, (lvP b N q 5 (p + 1) ts).2.2)) else lvP b N q 5 (p + 1) ts) := by
        unfold PQb
        rw [if_neg hd, if_neg hn, if_neg hk0, if_neg h33, if_pos h40]
      obtain ⟨a1, a2, a3⟩ := lvP_ok (b := b) (hq hk0) 5 (p + 1) ts (by omega)
      rw [show 5 - k + 1 = 6 - k by omega] at c1
      refine (hC hk0).2 S1 (p + 1) ts _ c1 (by omega) (by omega) (fun S2 f2 ho c2 => ?_) (fun S2 f2 ho c2 => ?_)
      · rw [if_pos ho] at e
        rw [if_neg (by decide)]
        refine e_look hN c2 a2 ?_
        by_cases h41 : nxb b N (lvP b N q 5 (p + 1) ts).2.1 = 41
        · rw [if_pos h41] at e
          rw [e] at hQ1
          rw [if_pos h41]
          simp only [nmS]
          rw [sI_ne (show ¬ ((17 : Nat) = 17 ∧ (6 : Nat) = 5) by omega), c2.2.2.2.1, nI_1, c2.2.2.2.2.1, show (1 : Int32) = nI 1 from rfl, pk_sub (by omega), show 6 - k - 1 = 5 - k by omega]
          exact hQ1 _ ((f1.tr f2).tr ((FrV.int (by omega)).tr (FrV.int (by omega)))) rfl ((c2.at rfl).op rfl)
        · rw [if_neg h41] at e
          rw [e] at hQ0
          rw [if_neg h41]
          exact hQ0 S2 (f1.tr f2) rfl c2.2.2.2.1
      · rw [if_neg (by rw [ho]; exact Bool.false_ne_true)] at e
        rw [e] at hQ0
        rw [if_pos rfl]
        exact hQ0 S2 (f1.tr f2) ho c2
  · rw [if_neg h40]
    refine fault ?_
    unfold PQb
    rw [if_neg hd, if_neg hn]
    by_cases hk0 : k = 0
    · rw [if_pos hk0]
    · rw [if_neg hk0, if_neg h33, if_neg h40]
theorem mdl_PQ {b : Nat → Int32} {N u : Nat} (hN : N ≤ 60) (hu : u < 2) : ∀ k, k ≤ 5 → ∀ D, Mdl b N u (5 - k) (PQ b N u k) (G_X7_whole (D + 6 * k + 1)).2.2.2.2.2 := by
  intro k
  induction k with
  | zero =>
    intro _ D
    exact mdl_Q (k := 0) hN hu (by decide) (fun x => absurd rfl x) (fun x => absurd rfl x)
  | succ k ih =>
    intro hk D
    refine mdl_Q (k := k + 1) (D := D + 6 * (k + 1)) hN hu hk (fun _ => PQ_ok hu k) (fun _ => ⟨?_, ?_⟩)
    · have := ih (by omega) (D + 5)
      rw [show 6 - (k + 1) = 5 - k by omega, show D + 6 * (k + 1) = D + 5 + 6 * k + 1 by omega]
      exact this
    · have := mdl_lv5 hN hu (PQ_ok hu k) (ih (by omega) D)
      rw [show 6 - (k + 1) = 5 - k by omega, show D + 6 * (k + 1) = D + 6 * k + 1 + 5 by omega]
      exact this
theorem mdl_text {b : Nat → Int32} {N u : Nat} (hN : N ≤ 60) (hu : u < 2) : Mdl b N u 0 (lvP b N (PQ b N u 5) 5) E_X7_whole := by
  have := mdl_lv5 (b := b) (u := u) (op := 0) hN hu (PQ_ok hu 5) (mdl_PQ hN hu 5 (by decide) 28)
  exact this
