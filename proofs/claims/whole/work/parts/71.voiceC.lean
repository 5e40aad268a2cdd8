/-! VOICES: the class -/
abbrev VF : Type := Int32 → List Int32 → Int32 × List Int32
def wS0 (d : Nat) : VF := fun n tr => (n + nI d, psh tr 10)
def wS1 (d : Nat) : VF := fun n tr => ((wS0 d n (psh tr 20)).1 - 4, (wS0 d n (psh tr 20)).2)
def wS4 (d : Nat) : VF := fun n tr => ((wS1 d n (psh tr 50)).1 * 3, (wS1 d n (psh tr 50)).2)
def wS6 : VF := fun _ tr => (9, psh tr 70)
def wS (d k : Nat) : VF := if k = 1 then wS1 d else if k = 4 then wS4 d else if k = 6 then wS6 else wS0 d
def wA0 (d k0 : Nat) : VF := fun n tr => ((wS d k0 n (psh tr 11)).1 * 2, (wS d k0 n (psh tr 11)).2)
def wA2 (d k0 : Nat) : VF := fun n tr => (0 - (wA0 d k0 n (psh tr 30)).1, (wA0 d k0 n (psh tr 30)).2)
def wA5 (d k0 : Nat) : VF := fun n tr => wA2 d k0 (n + 1) (psh tr 60)
def wA6 (d m k0 : Nat) : VF := fun n tr => ((wA0 d k0 n (psh tr 71)).1 + nI m, (wA0 d k0 n (psh tr 71)).2)
def wA (d m k0 k : Nat) : VF := if k = 2 then wA2 d k0 else if k = 5 then wA5 d k0 else if k = 6 then wA6 d m k0 else wA0 d k0
def wR0 (d m k0 : Nat) : VF := fun n tr => ((wA d m k0 k0 n (psh tr 12)).1 - nI m, (wA d m k0 k0 n (psh tr 12)).2)
def wR3 (d m k0 : Nat) : VF := fun n tr => wR0 d m k0 (n / 2) (psh tr 40)
def wR4 (d m k0 : Nat) : VF := fun n tr => ((wR0 d m k0 n (psh tr 51)).1 ^^^ nI d, (wR0 d m k0 n (psh tr 51)).2)
def wR (d m k0 k : Nat) : VF := if k = 3 then wR3 d m k0 else if k = 4 then wR4 d m k0 else wR0 d m k0
def CV (d m k0 c v k : Nat) (f : VF) : Prop := ∀ (D : Nat) (S : St) (pt : Int32) (tr : List Int32) (n : Int32) (x4 : Nat) (Q : Int32 → St → Prop), x4 + c ≤ 31 → VC d m k0 S pt tr → (∀ S1, FrW S S1 → VC d m k0 S1 pt (f n tr).2 → Q (f n tr).1 S1) → (G_X5_say (D + c)).1 (nI v) (nI k) n (nI x4) S Q
theorem CV.le {d m k0 c c1 v k : Nat} {f : VF} (h : CV d m k0 c v k f) (hc : c ≤ c1) : CV d m k0 c1 v k f := by
  intro D S pt tr n x4 Q h4 hV hQ
  rw [show D + c1 = (D + (c1 - c)) + c by omega]
  exact h (D + (c1 - c)) S pt tr n x4 Q (by omega) hV hQ
theorem cv_S0 {d m k0 k : Nat} (hk : k < 7) (ho : own 7 0 k = 0) : CV d m k0 1 0 k (wS0 d) := by
  intro D S pt tr n x4 Q h4 hV hQ
  refine e_say1 hV (by decide) hk ho (by omega) (fun S1 f1 c1 => ?_)
  unfold bodC
  rw [if_pos (by decide), c1.2.1]
  exact hQ S1 f1 c1
theorem cv_S1 {d m k0 : Nat} {k : Nat} (hk : k < 7) (ho : own 7 0 k = 1) : CV d m k0 2 0 k (wS1 d) := by
  intro D S pt tr n x4 Q h4 hV hQ
  refine e_say1 (D := D + 1) hV (by decide) hk ho (by omega) (fun S1 f1 c1 => ?_)
  unfold bodC
  repeat rw [if_neg (by decide)]
  rw [if_pos (by decide), nI_1, show sABV 1 = nI 0 from rfl]
  exact cv_S0 (by decide) (by decide) D S1 pt _ n (x4 + 1) _ (by omega) c1 (fun S2 f2 c2 => hQ S2 (f1.tr f2) c2)
theorem cv_S4 {d m k0 : Nat} : CV d m k0 3 0 4 (wS4 d) := by
  intro D S pt tr n x4 Q h4 hV hQ
  refine e_say1 (D := D + 2) (o := 4) hV (by decide) (by decide) (by decide) (by omega) (fun S1 f1 c1 => ?_)
  unfold bodC
  repeat rw [if_neg (by decide)]
  rw [if_pos (by decide), nI_1, show sABV 4 = nI 1 from rfl]
  exact cv_S1 (by decide) (by decide) D S1 pt _ n (x4 + 1) _ (by omega) c1 (fun S2 f2 c2 => hQ S2 (f1.tr f2) c2)
theorem cv_S6 {d m k0 : Nat} : CV d m k0 1 0 6 wS6 := by
  intro D S pt tr n x4 Q h4 hV hQ
  refine e_say1 (D := D) (o := 6) hV (by decide) (by decide) (by decide) (by omega) (fun S1 f1 c1 => ?_)
  unfold bodC
  repeat rw [if_neg (by decide)]
  rw [if_pos (by decide)]
  exact hQ S1 f1 c1
theorem cv_S {d m k0 k : Nat} (hk : k < 7) : CV d m k0 3 0 k (wS d k) := by
  rcases (show k = 0 ∨ k = 1 ∨ k = 2 ∨ k = 3 ∨ k = 4 ∨ k = 5 ∨ k = 6 by omega) with rfl | rfl | rfl | rfl | rfl | rfl | rfl
  · exact (cv_S0 (by decide) (by decide)).le (by decide)
  · exact (cv_S1 (by decide) (by decide)).le (by decide)
  · exact (cv_S0 (by decide) (by decide)).le (by decide)
  · exact (cv_S0 (by decide) (by decide)).le (by decide)
  · exact cv_S4
  · exact (cv_S0 (by decide) (by decide)).le (by decide)
  · exact cv_S6.le (by decide)
theorem cv_A0 {d m k0 k : Nat} (h0 : k0 < 7) (hk : k < 7) (ho : own 7 1 k = 0) : CV d m k0 4 1 k (wA0 d k0) := by
  intro D S pt tr n x4 Q h4 hV hQ
  refine e_say1 (D := D + 3) hV (by decide) hk ho (by omega) (fun S1 f1 c1 => ?_)
  unfold bodC
  repeat rw [if_neg (by decide)]
  rw [if_pos (by decide), nI_1, c1.1]
  exact cv_S h0 D S1 pt _ n (x4 + 1) _ (by omega) c1 (fun S2 f2 c2 => hQ S2 (f1.tr f2) c2)
theorem cv_A2 {d m k0 : Nat} {k : Nat} (h0 : k0 < 7) (hk : k < 7) (ho : own 7 1 k = 2) : CV d m k0 5 1 k (wA2 d k0) := by
  intro D S pt tr n x4 Q h4 hV hQ
  refine e_say1 (D := D + 4) hV (by decide) hk ho (by omega) (fun S1 f1 c1 => ?_)
  unfold bodC
  repeat rw [if_neg (by decide)]
  rw [if_pos (by decide), nI_1, show sABV 2 = nI 0 from rfl]
  exact cv_A0 h0 (by decide) (by decide) D S1 pt _ n (x4 + 1) _ (by omega) c1 (fun S2 f2 c2 => hQ S2 (f1.tr f2) c2)
theorem cv_A5 {d m k0 : Nat} (h0 : k0 < 7) : CV d m k0 6 1 5 (wA5 d k0) := by
  intro D S pt tr n x4 Q h4 hV hQ
  refine e_say1 (D := D + 5) (o := 5) hV (by decide) (by decide) (by decide) (by omega) (fun S1 f1 c1 => ?_)
  unfold bodC
  repeat rw [if_neg (by decide)]
  rw [if_pos (by decide), nI_1, show sABV 5 = nI 2 from rfl]
  exact cv_A2 h0 (by decide) (by decide) D S1 pt _ (n + 1) (x4 + 1) _ (by omega) c1 (fun S2 f2 c2 => hQ S2 (f1.tr f2) c2)
theorem cv_A6 {d m k0 : Nat} (h0 : k0 < 7) : CV d m k0 5 1 6 (wA6 d m k0) := by
  intro D S pt tr n x4 Q h4 hV hQ
  refine e_say1 (D := D + 4) (o := 6) hV (by decide) (by decide) (by decide) (by omega) (fun S1 f1 c1 => ?_)
  unfold bodC
  repeat rw [if_neg (by decide)]
  rw [if_pos (by decide), nI_1, show sABV 6 = nI 0 from rfl]
  refine cv_A0 h0 (by decide) (by decide) D S1 pt _ n (x4 + 1) _ (by omega) c1 (fun S2 f2 c2 => ?_)
  rw [c2.2.2.1]
  exact hQ S2 (f1.tr f2) c2
theorem cv_A {d m k0 k : Nat} (h0 : k0 < 7) (hk : k < 7) : CV d m k0 6 1 k (wA d m k0 k) := by
  rcases (show k = 0 ∨ k = 1 ∨ k = 2 ∨ k = 3 ∨ k = 4 ∨ k = 5 ∨ k = 6 by omega) with rfl | rfl | rfl | rfl | rfl | rfl | rfl
  · exact (cv_A0 h0 (by decide) (by decide)).le (by decide)
  · exact (cv_A0 h0 (by decide) (by decide)).le (by decide)
  · exact (cv_A2 h0 (by decide) (by decide)).le (by decide)
  · exact (cv_A0 h0 (by decide) (by decide)).le (by decide)
  · exact (cv_A0 h0 (by decide) (by decide)).le (by decide)
  · exact cv_A5 h0
  · exact (cv_A6 h0).le (by decide)
theorem cv_R0 {d m k0 k : Nat} (h0 : k0 < 7) (hk : k < 7) (ho : own 7 2 k = 0) : CV d m k0 7 2 k (wR0 d m k0) := by
  intro D S pt tr n x4 Q h4 hV hQ
  refine e_say1 (D := D + 6) hV (by decide) hk ho (by omega) (fun S1 f1 c1 => ?_)
  unfold bodC
  repeat rw [if_neg (by decide)]
  rw [if_pos (by decide), nI_1, c1.1]
  refine cv_A h0 h0 D S1 pt _ n (x4 + 1) _ (by omega) c1 (fun S2 f2 c2 => ?_)
  rw [c2.2.2.1]
  exact hQ S2 (f1.tr f2) c2
theorem cv_R3 {d m k0 : Nat} (h0 : k0 < 7) : CV d m k0 8 2 3 (wR3 d m k0) := by
  intro D S pt tr n x4 Q h4 hV hQ
  refine e_say1 (D := D + 7) (o := 3) hV (by decide) (by decide) (by decide) (by omega) (fun S1 f1 c1 => ?_)
  unfold bodC
  repeat rw [if_neg (by decide)]
  rw [if_pos (by decide), nI_1, show sABV 3 = nI 0 from rfl]
  exact cv_R0 h0 (by decide) (by decide) D S1 pt _ (n / 2) (x4 + 1) _ (by omega) c1 (fun S2 f2 c2 => hQ S2 (f1.tr f2) c2)
theorem cv_R4 {d m k0 : Nat} (h0 : k0 < 7) : CV d m k0 8 2 4 (wR4 d m k0) := by
  intro D S pt tr n x4 Q h4 hV hQ
  refine e_say1 (D := D + 7) (o := 4) hV (by decide) (by decide) (by decide) (by omega) (fun S1 f1 c1 => ?_)
  unfold bodC
  repeat rw [if_neg (by decide)]
  rw [if_pos (by decide), nI_1, show sABV 4 = nI 1 from rfl]
  refine cv_R0 (k := 1) h0 (by decide) (by decide) D S1 pt _ n (x4 + 1) _ (by omega) c1 (fun S2 f2 c2 => ?_)
  rw [c2.2.1]
  exact hQ S2 (f1.tr f2) c2
theorem cv_R {d m k0 k : Nat} (h0 : k0 < 7) (hk : k < 7) : CV d m k0 8 2 k (wR d m k0 k) := by
  rcases (show k = 0 ∨ k = 1 ∨ k = 2 ∨ k = 3 ∨ k = 4 ∨ k = 5 ∨ k = 6 by omega) with rfl | rfl | rfl | rfl | rfl | rfl | rfl
  · exact (cv_R0 h0 (by decide) (by decide)).le (by decide)
  · exact (cv_R0 h0 (by decide) (by decide)).le (by decide)
  · exact (cv_R0 h0 (by decide) (by decide)).le (by decide)
  · exact cv_R3 h0
  · exact cv_R4 h0
  · exact (cv_R0 h0 (by decide) (by decide)).le (by decide)
  · exact (cv_R0 h0 (by decide) (by decide)).le (by decide)
/-- the fourth voice: what it gives, THE TRACE, whether it parted -/
abbrev PF : Type := Int32 → List Int32 → Int32 × List Int32 × Int32
def wP0 (d m : Nat) : PF := fun n tr => (if nI m - nI d = 0 then 0 else n / (nI m - nI d), psh tr 13, if nI m - nI d = 0 then 1 else 0)
def wP1 (d m k0 : Nat) : PF := fun n tr => if (wP0 d m n (psh tr 21)).2.2 = 0 then ((wP0 d m n (psh tr 21)).1 + (wA d m k0 k0 1 (wP0 d m n (psh tr 21)).2.1).1, (wA d m k0 k0 1 (wP0 d m n (psh tr 21)).2.1).2, 0) else (0, (wP0 d m n (psh tr 21)).2.1, (wP0 d m n (psh tr 21)).2.2)
def wP (d m k0 k : Nat) : PF := if k = 1 ∨ k = 4 then wP1 d m k0 else wP0 d m
def CP (d m k0 c k : Nat) (f : PF) : Prop := ∀ (D : Nat) (S : St) (pt : Int32) (tr : List Int32) (n : Int32) (x4 : Nat) (Q : Int32 → St → Prop), x4 + c ≤ 31 → VC d m k0 S pt tr → (∀ S1, FrW S S1 → VC d m k0 S1 (f n tr).2.2 (f n tr).2.1 → Q (f n tr).1 S1) → (G_X5_say (D + c)).1 (nI 3) (nI k) n (nI x4) S Q
theorem VC.part {d m k : Nat} {S : St} {pt p1 : Int32} {tr : List Int32} (h : VC d m k S pt tr) : VC d m k (stI S 12 2 p1) p1 tr := by
  obtain ⟨a1, a2, a3, a4, a5, a6, a7⟩ := h
  exact ⟨by rw [sI_ne (by omega)]; exact a1, by rw [sI_ne (by omega)]; exact a2, by rw [sI_ne (by omega)]; exact a3, sI_same, by rw [sI_ne (by omega)]; exact a5, a6, a7⟩
theorem FrW.int {S : St} {k : Nat} {v : Int32} : FrW S (stI S 12 k v) := ⟨fun _ _ q => sI_ne (fun e => q e.1), fun _ _ _ => rfl⟩
theorem cp_0 {d m k0 k : Nat} (hk : k < 7) (ho : own 7 3 k = 0) : CP d m k0 1 k (wP0 d m) := by
  intro D S pt tr n x4 Q h4 hV hQ
  refine e_say1 (v := 3) hV (by decide) hk ho (by omega) (fun S1 f1 c1 => ?_)
  unfold bodC
  repeat rw [if_neg (by decide)]
  rw [if_pos (by decide)]
  unfold E_X5_part
  simp only [nmI, nmS]
  rw [c1.2.2.1, c1.2.1]
  unfold wP0 at hQ
  by_cases z : nI m - nI d = 0
  · rw [if_pos z, if_pos z] at hQ
    rw [if_pos z, sI_same, if_neg (by decide)]
    exact hQ _ (f1.tr FrW.int) c1.part
  · rw [if_neg z, if_neg z] at hQ
    rw [if_neg z, sI_same, if_pos rfl]
    exact ⟨z, hQ _ (f1.tr FrW.int) c1.part⟩
theorem cp_1 {d m k0 k : Nat} (h0 : k0 < 7) (hk : k < 7) (ho : own 7 3 k = 1) : CP d m k0 8 k (wP1 d m k0) := by
  intro D S pt tr n x4 Q h4 hV hQ
  refine e_say1 (D := D + 7) (v := 3) hV (by decide) hk ho (by omega) (fun S1 f1 c1 => ?_)
  unfold bodC
  repeat rw [if_neg (by decide)]
  rw [if_pos (by decide), nI_1, show sABV 1 = nI 0 from rfl]
  refine cp_0 (by decide) (by decide) (D + 6) S1 pt _ n (x4 + 1) _ (by omega) c1 (fun S2 f2 c2 => ?_)
  show B_X5_partOfJoint (G_X5_say (D + 6)).1 (G_X5_say (D + 6)).2 _ (nI x4) S2 _
  unfold B_X5_partOfJoint
  unfold wP1 at hQ
  rw [c2.2.2.2.1]
  by_cases z : (wP0 d m n (psh tr 21)).2.2 = 0
  · rw [if_pos z] at hQ
    refine (if_pos z).mpr ?_
    rw [nI_1, c2.1]
    refine cv_A h0 h0 D S2 _ _ 1 (x4 + 1) _ (by omega) c2 (fun S3 f3 c3 => hQ S3 ((f1.tr f2).tr f3) ?_)
    rw [show sBOD (1 * 4 + 3) = 21 by decide, z] at c3
    exact c3
  · rw [if_neg z] at hQ
    refine (if_neg z).mpr ?_
    exact hQ S2 (f1.tr f2) c2
theorem cp_P {d m k0 k : Nat} (h0 : k0 < 7) (hk : k < 7) : CP d m k0 8 k (wP d m k0 k) := by
  have le : CP d m k0 1 k (wP0 d m) → CP d m k0 8 k (wP0 d m) := by
    intro h D S pt tr n x4 Q h4 hV hQ
    exact h (D + 7) S pt tr n x4 Q (by omega) hV hQ
  rcases (show k = 0 ∨ k = 1 ∨ k = 2 ∨ k = 3 ∨ k = 4 ∨ k = 5 ∨ k = 6 by omega) with rfl | rfl | rfl | rfl | rfl | rfl | rfl
  · exact le (cp_0 (by decide) (by decide))
  · exact cp_1 h0 (by decide) (by decide)
  · exact le (cp_0 (by decide) (by decide))
  · exact le (cp_0 (by decide) (by decide))
  · exact cp_1 h0 (by decide) (by decide)
  · exact le (cp_0 (by decide) (by decide))
  · exact le (cp_0 (by decide) (by decide))
