/-! VOICES: the reference -/
def VM (d m k : Nat) (S : St) (pt : Int32) (tr : List Int32) : Prop := S.1 17 16 = nI d ∧ S.2 17 0 (8 + 5 * d + 0) = nI k ∧ S.2 17 0 (8 + 5 * d + 1) = nI m ∧ S.1 17 17 = pt ∧ S.1 17 14 = nI tr.length ∧ tr.length ≤ 30 ∧ ∀ (j : Nat) (v : Int32), tr[j]? = some v → S.2 17 15 j = v
def FrY (S S1 : St) : Prop := (∀ o k, ¬ (o = 17 ∧ (k = 14 ∨ k = 16 ∨ k = 17)) → S1.1 o k = S.1 o k) ∧ ∀ o k, ¬ (o = 17 ∧ k = 15) → S1.2 o k = S.2 o k
theorem FrY.rf {S : St} : FrY S S := ⟨fun _ _ _ => rfl, fun _ _ _ => rfl⟩
theorem FrY.tr {S S1 S2 : St} (h : FrY S S1) (g : FrY S1 S2) : FrY S S2 := ⟨fun o k q => (g.1 o k q).trans (h.1 o k q), fun o k q => (g.2 o k q).trans (h.2 o k q)⟩
theorem FrY.int {S : St} {k : Nat} {v : Int32} (hk : k = 14 ∨ k = 16 ∨ k = 17) : FrY S (stI S 17 k v) := ⟨fun _ _ q => sI_ne (fun e => q ⟨e.1, by rw [e.2]; exact hk⟩), fun _ _ _ => rfl⟩
theorem VM.part {d m k : Nat} {S : St} {pt p1 : Int32} {tr : List Int32} (h : VM d m k S pt tr) : VM d m k (stI S 17 17 p1) p1 tr := by
  obtain ⟨a1, a2, a3, a4, a5, a6, a7⟩ := h
  exact ⟨by rw [sI_ne (by omega)]; exact a1, a2, a3, sI_same, by rw [sI_ne (by omega)]; exact a5, a6, a7⟩
theorem e_starts {d m k : Nat} {S : St} {pt x : Int32} {tr : List Int32} {Q : St → Prop} (h : VM d m k S pt tr) (q : ∀ S1, FrY S S1 → VM d m k S1 pt (psh tr x) → Q S1) : E_X7_starts x S Q := by
  obtain ⟨a1, a2, a3, a4, a5, a6, a7⟩ := h
  unfold E_X7_starts
  rw [a5]
  by_cases e : tr.length < 30
  · rw [if_neg (show ¬ (30 : Int32) ≤ nI tr.length from nI_ge (b := 30) e (by decide)), nI_clamp (by omega)]
    refine ⟨vp_in_nI e (by decide), ?_⟩
    simp only [nmS]
    rw [st_int, a5, nI_1]
    have ep : psh tr x = tr ++ [x] := by unfold psh; rw [if_pos e]
    refine q _ ⟨fun o k q1 => sI_ne (by omega), fun o k q1 => st_ne (by omega)⟩ ⟨by rw [sI_ne (by omega)]; exact a1, by rw [sI_row, st_ne (by omega)]; exact a2, by rw [sI_row, st_ne (by omega)]; exact a3, by rw [sI_ne (by omega)]; exact a4, ?_, psh_len a6, fun j v hj => ?_⟩
    · rw [sI_same, ep, List.length_append, List.length_singleton]
    · rw [ep] at hj
      rw [sI_row, st_same]
      rcases app_get hj with ⟨q1, q2⟩ | ⟨q1, q2⟩
      · rw [pk_un (by omega)]; exact a7 j v q2
      · rw [q1, q2, pk_us]
  · rw [if_pos (show (30 : Int32) ≤ nI tr.length from nI_le (a := 30) (by omega) (by omega))]
    have ep : psh tr x = tr := by unfold psh; rw [if_neg e]
    rw [ep] at q
    exact q S FrY.rf ⟨a1, a2, a3, a4, a5, a6, a7⟩
theorem e_kind {d m k : Nat} {S : St} {pt : Int32} {tr : List Int32} {Q : Int32 → St → Prop} (hd : d < 9) (h : VM d m k S pt tr) (q : Q (nI k) S) : E_X7_kindNow S Q := by
  unfold E_X7_kindNow
  rw [h.1]
  refine e_its (w := 0) hd (by decide) rfl ?_
  rw [h.2.1]
  exact q
theorem e_mNow {d m k : Nat} {S : St} {pt : Int32} {tr : List Int32} {Q : Int32 → St → Prop} (hd : d < 9) (h : VM d m k S pt tr) (q : Q (nI m) S) : E_X7_mNow S Q := by
  unfold E_X7_mNow
  rw [h.1]
  refine e_its (w := 1) hd (by decide) rfl ?_
  rw [h.2.2.1]
  exact q
def MV (G : Nat → Int32 → Int32 → St → (Int32 → St → Prop) → Prop) (d m k0 c k : Nat) (f : VF) : Prop := ∀ (D : Nat) (S : St) (pt : Int32) (tr : List Int32) (n : Int32) (Q : Int32 → St → Prop), VM d m k0 S pt tr → (∀ S1, FrY S S1 → VM d m k0 S1 pt (f n tr).2 → Q (f n tr).1 S1) → G (D + c) (nI k) n S Q
theorem MV.le {G : Nat → Int32 → Int32 → St → (Int32 → St → Prop) → Prop} {d m k0 c c1 k : Nat} {f : VF} (h : MV G d m k0 c k f) (hc : c ≤ c1) : MV G d m k0 c1 k f := by
  intro D S pt tr n Q hV hQ
  rw [show D + c1 = (D + (c1 - c)) + c by omega]
  exact h (D + (c1 - c)) S pt tr n Q hV hQ
theorem ms_0 {d m k0 : Nat} : MV G_X7_sighsAs d m k0 1 0 (wS0 d) := by
  intro D S pt tr n Q hV hQ
  show B_X7_sighsAs (G_X7_sighsAs D) (nI 0) n S Q
  unfold B_X7_sighsAs
  rw [if_pos (by decide)]
  refine e_starts hV (fun S1 f1 c1 => ?_)
  rw [c1.1]
  exact hQ S1 f1 c1
theorem ms_up {d m k0 c k : Nat} {f : VF} (hk : k = 2 ∨ k = 3 ∨ k = 5) (h : MV G_X7_sighsAs d m k0 c (upN k) f) : MV G_X7_sighsAs d m k0 (c + 1) k f := by
  intro D S pt tr n Q hV hQ
  show B_X7_sighsAs (G_X7_sighsAs (D + c)) (nI k) n S Q
  unfold B_X7_sighsAs
  rcases hk with rfl | rfl | rfl <;>
  · repeat rw [if_neg (by decide)]
    exact e_above (by decide) (h D S pt tr n _ hV hQ)
theorem ms_1 {d m k0 : Nat} : MV G_X7_sighsAs d m k0 2 1 (wS1 d) := by
  intro D S pt tr n Q hV hQ
  show B_X7_sighsAs (G_X7_sighsAs (D + 1)) (nI 1) n S Q
  unfold B_X7_sighsAs
  repeat rw [if_neg (by decide)]
  rw [if_pos (by decide)]
  refine e_starts hV (fun S1 f1 c1 => e_above (k := 1) (by decide) (ms_0 D S1 pt _ n _ c1 (fun S2 f2 c2 => hQ S2 (f1.tr f2) c2)))
theorem ms_4 {d m k0 : Nat} : MV G_X7_sighsAs d m k0 3 4 (wS4 d) := by
  intro D S pt tr n Q hV hQ
  show B_X7_sighsAs (G_X7_sighsAs (D + 2)) (nI 4) n S Q
  unfold B_X7_sighsAs
  repeat rw [if_neg (by decide)]
  rw [if_pos (by decide)]
  refine e_starts hV (fun S1 f1 c1 => e_above (k := 4) (by decide) (ms_1 D S1 pt _ n _ c1 (fun S2 f2 c2 => hQ S2 (f1.tr f2) c2)))
theorem ms_6 {d m k0 : Nat} : MV G_X7_sighsAs d m k0 1 6 wS6 := by
  intro D S pt tr n Q hV hQ
  show B_X7_sighsAs (G_X7_sighsAs D) (nI 6) n S Q
  unfold B_X7_sighsAs
  repeat rw [if_neg (by decide)]
  rw [if_pos (by decide)]
  exact e_starts hV (fun S1 f1 c1 => hQ S1 f1 c1)
theorem ms_S {d m k0 k : Nat} (hk : k < 7) : MV G_X7_sighsAs d m k0 3 k (wS d k) := by
  rcases (show k = 0 ∨ k = 1 ∨ k = 2 ∨ k = 3 ∨ k = 4 ∨ k = 5 ∨ k = 6 by omega) with rfl | rfl | rfl | rfl | rfl | rfl | rfl
  · exact ms_0.le (by decide)
  · exact ms_1.le (by decide)
  · exact (ms_up (c := 1) (Or.inl rfl) ms_0).le (by decide)
  · exact (ms_up (c := 1) (Or.inr (Or.inl rfl)) ms_0).le (by decide)
  · exact ms_4
  · exact ms_up (c := 2) (Or.inr (Or.inr rfl)) (ms_up (c := 1) (Or.inl rfl) ms_0)
  · exact ms_6.le (by decide)
theorem ma_0 {d m k0 : Nat} (hd : d < 9) (h0 : k0 < 7) : MV G_X7_asksAs d m k0 1 0 (wA0 d k0) := by
  intro D S pt tr n Q hV hQ
  show B_X7_asksAs (G_X7_asksAs D) (nI 0) n S Q
  unfold B_X7_asksAs
  rw [if_pos (by decide)]
  refine e_starts hV (fun S1 f1 c1 => e_kind hd c1 ?_)
  exact ms_S h0 61 S1 pt _ n _ c1 (fun S2 f2 c2 => hQ S2 (f1.tr f2) c2)
theorem ma_up {d m k0 c k : Nat} {f : VF} (hk : k = 1 ∨ k = 3 ∨ k = 4) (h : MV G_X7_asksAs d m k0 c (upN k) f) : MV G_X7_asksAs d m k0 (c + 1) k f := by
  intro D S pt tr n Q hV hQ
  show B_X7_asksAs (G_X7_asksAs (D + c)) (nI k) n S Q
  unfold B_X7_asksAs
  rcases hk with rfl | rfl | rfl <;>
  · repeat rw [if_neg (by decide)]
    exact e_above (by decide) (h D S pt tr n _ hV hQ)
theorem ma_2 {d m k0 : Nat} (hd : d < 9) (h0 : k0 < 7) : MV G_X7_asksAs d m k0 2 2 (wA2 d k0) := by
  intro D S pt tr n Q hV hQ
  show B_X7_asksAs (G_X7_asksAs (D + 1)) (nI 2) n S Q
  unfold B_X7_asksAs
  repeat rw [if_neg (by decide)]
  rw [if_pos (by decide)]
  exact e_starts hV (fun S1 f1 c1 => e_above (k := 2) (by decide) (ma_0 hd h0 D S1 pt _ n _ c1 (fun S2 f2 c2 => hQ S2 (f1.tr f2) c2)))
theorem ma_5 {d m k0 : Nat} (hd : d < 9) (h0 : k0 < 7) : MV G_X7_asksAs d m k0 3 5 (wA5 d k0) := by
  intro D S pt tr n Q hV hQ
  show B_X7_asksAs (G_X7_asksAs (D + 2)) (nI 5) n S Q
  unfold B_X7_asksAs
  repeat rw [if_neg (by decide)]
  rw [if_pos (by decide)]
  exact e_starts hV (fun S1 f1 c1 => e_above (k := 5) (by decide) (ma_2 hd h0 D S1 pt _ (n + 1) _ c1 (fun S2 f2 c2 => hQ S2 (f1.tr f2) c2)))
theorem ma_6 {d m k0 : Nat} (hd : d < 9) (h0 : k0 < 7) : MV G_X7_asksAs d m k0 2 6 (wA6 d m k0) := by
  intro D S pt tr n Q hV hQ
  show B_X7_asksAs (G_X7_asksAs (D + 1)) (nI 6) n S Q
  unfold B_X7_asksAs
  repeat rw [if_neg (by decide)]
  rw [if_pos (by decide)]
  exact e_starts hV (fun S1 f1 c1 => e_above (k := 6) (by decide) (ma_0 hd h0 D S1 pt _ n _ c1 (fun S2 f2 c2 => e_mNow hd c2 (hQ S2 (f1.tr f2) c2))))
theorem ma_A {d m k0 k : Nat} (hd : d < 9) (h0 : k0 < 7) (hk : k < 7) : MV G_X7_asksAs d m k0 3 k (wA d m k0 k) := by
  rcases (show k = 0 ∨ k = 1 ∨ k = 2 ∨ k = 3 ∨ k = 4 ∨ k = 5 ∨ k = 6 by omega) with rfl | rfl | rfl | rfl | rfl | rfl | rfl
  · exact (ma_0 hd h0).le (by decide)
  · exact (ma_up (c := 1) (Or.inl rfl) (ma_0 hd h0)).le (by decide)
  · exact (ma_2 hd h0).le (by decide)
  · exact (ma_up (c := 1) (Or.inr (Or.inl rfl)) (ma_0 hd h0)).le (by decide)
  · exact ma_up (c := 2) (Or.inr (Or.inr rfl)) (ma_up (c := 1) (Or.inl rfl) (ma_0 hd h0))
  · exact ma_5 hd h0
  · exact (ma_6 hd h0).le (by decide)
theorem mc_0 {d m k0 : Nat} (hd : d < 9) (h0 : k0 < 7) : MV G_X7_scrapesAs d m k0 1 0 (wR0 d m k0) := by
  intro D S pt tr n Q hV hQ
  show B_X7_scrapesAs (G_X7_scrapesAs D) (nI 0) n S Q
  unfold B_X7_scrapesAs
  rw [if_pos (by decide)]
  refine e_starts hV (fun S1 f1 c1 => e_kind hd c1 ?_)
  exact ma_A hd h0 h0 61 S1 pt _ n _ c1 (fun S2 f2 c2 => e_mNow hd c2 (hQ S2 (f1.tr f2) c2))
theorem mc_up {d m k0 c k : Nat} {f : VF} (hk : k = 1 ∨ k = 2 ∨ k = 5 ∨ k = 6) (h : MV G_X7_scrapesAs d m k0 c (upN k) f) : MV G_X7_scrapesAs d m k0 (c + 1) k f := by
  intro D S pt tr n Q hV hQ
  show B_X7_scrapesAs (G_X7_scrapesAs (D + c)) (nI k) n S Q
  unfold B_X7_scrapesAs
  rcases hk with rfl | rfl | rfl | rfl <;>
  · repeat rw [if_neg (by decide)]
    exact e_above (by decide) (h D S pt tr n _ hV hQ)
theorem mc_3 {d m k0 : Nat} (hd : d < 9) (h0 : k0 < 7) : MV G_X7_scrapesAs d m k0 2 3 (wR3 d m k0) := by
  intro D S pt tr n Q hV hQ
  show B_X7_scrapesAs (G_X7_scrapesAs (D + 1)) (nI 3) n S Q
  unfold B_X7_scrapesAs
  repeat rw [if_neg (by decide)]
  rw [if_pos (by decide)]
  exact e_starts hV (fun S1 f1 c1 => e_above (k := 3) (by decide) (mc_0 hd h0 D S1 pt _ (n / 2) _ c1 (fun S2 f2 c2 => hQ S2 (f1.tr f2) c2)))
theorem mc_4 {d m k0 : Nat} (hd : d < 9) (h0 : k0 < 7) : MV G_X7_scrapesAs d m k0 3 4 (wR4 d m k0) := by
  intro D S pt tr n Q hV hQ
  show B_X7_scrapesAs (G_X7_scrapesAs (D + 2)) (nI 4) n S Q
  unfold B_X7_scrapesAs
  repeat rw [if_neg (by decide)]
  rw [if_pos (by decide)]
  refine e_starts hV (fun S1 f1 c1 => e_above (k := 4) (by decide) (mc_up (c := 1) (Or.inl rfl) (mc_0 hd h0) D S1 pt _ n _ c1 (fun S2 f2 c2 => ?_)))
  rw [c2.1]
  exact hQ S2 (f1.tr f2) c2
theorem mc_R {d m k0 k : Nat} (hd : d < 9) (h0 : k0 < 7) (hk : k < 7) : MV G_X7_scrapesAs d m k0 3 k (wR d m k0 k) := by
  rcases (show k = 0 ∨ k = 1 ∨ k = 2 ∨ k = 3 ∨ k = 4 ∨ k = 5 ∨ k = 6 by omega) with rfl | rfl | rfl | rfl | rfl | rfl | rfl
  · exact (mc_0 hd h0).le (by decide)
  · exact (mc_up (c := 1) (Or.inl rfl) (mc_0 hd h0)).le (by decide)
  · exact (mc_up (c := 1) (Or.inr (Or.inl rfl)) (mc_0 hd h0)).le (by decide)
  · exact (mc_3 hd h0).le (by decide)
  · exact mc_4 hd h0
  · exact mc_up (c := 2) (Or.inr (Or.inr (Or.inl rfl))) (mc_up (c := 1) (Or.inr (Or.inl rfl)) (mc_0 hd h0))
  · exact (mc_up (c := 1) (Or.inr (Or.inr (Or.inr rfl))) (mc_0 hd h0)).le (by decide)
def MP (d m k0 c k : Nat) (f : PF) : Prop := ∀ (D : Nat) (S : St) (pt : Int32) (tr : List Int32) (n : Int32) (Q : Int32 → St → Prop), VM d m k0 S pt tr → (∀ S1, FrY S S1 → VM d m k0 S1 (f n tr).2.2 (f n tr).2.1 → Q (f n tr).1 S1) → G_X7_partsAs (D + c) (nI k) n S Q
theorem mp_0 {d m k0 : Nat} (hd : d < 9) : MP d m k0 1 0 (wP0 d m) := by
  intro D S pt tr n Q hV hQ
  show B_X7_partsAs (G_X7_partsAs D) (nI 0) n S Q
  unfold B_X7_partsAs
  rw [if_pos (by decide)]
  refine e_starts hV (fun S1 f1 c1 => e_mNow hd c1 ?_)
  simp only [nmI]
  rw [c1.1]
  unfold wP0 at hQ
  unfold J_X7_partsAs_54
  simp only [nmS]
  by_cases z : nI m - nI d = 0
  · rw [if_pos z, if_pos z] at hQ
    rw [if_pos z, if_pos z]
    exact ⟨Or.inr trivial, hQ _ (f1.tr (FrY.int (by omega))) c1.part⟩
  · rw [if_neg z, if_neg z] at hQ
    rw [if_neg z, if_neg z]
    refine ⟨Or.inl trivial, ?_⟩
    have q := hQ _ (f1.tr (FrY.int (k := 17) (v := 0) (by omega))) c1.part
    by_cases z1 : nI m - nI d = -1
    · rw [if_pos z1]
      rw [z1, div_m1] at q
      exact q
    · rw [if_neg z1]
      exact ⟨z, q⟩
theorem mp_up {d m k0 c k : Nat} {f : PF} (hk : k = 2 ∨ k = 3 ∨ k = 4 ∨ k = 5 ∨ k = 6) (h : MP d m k0 c (upN k) f) : MP d m k0 (c + 1) k f := by
  intro D S pt tr n Q hV hQ
  show B_X7_partsAs (G_X7_partsAs (D + c)) (nI k) n S Q
  unfold B_X7_partsAs
  rcases hk with rfl | rfl | rfl | rfl | rfl <;>
  · repeat rw [if_neg (by decide)]
    exact e_above (by decide) (h D S pt tr n _ hV hQ)
theorem mp_1 {d m k0 : Nat} (hd : d < 9) (h0 : k0 < 7) : MP d m k0 2 1 (wP1 d m k0) := by
  intro D S pt tr n Q hV hQ
  show B_X7_partsAs (G_X7_partsAs (D + 1)) (nI 1) n S Q
  unfold B_X7_partsAs
  repeat rw [if_neg (by decide)]
  rw [if_pos (by decide)]
  refine e_starts hV (fun S1 f1 c1 => e_above (k := 1) (by decide) (mp_0 hd D S1 pt _ n _ c1 (fun S2 f2 c2 => ?_)))
  unfold wP1 at hQ
  rw [c2.2.2.2.1]
  by_cases z : (wP0 d m n (psh tr 21)).2.2 = 0
  · rw [if_pos z] at hQ
    refine (if_pos z).mpr (e_kind hd c2 ?_)
    refine ma_A hd h0 h0 61 S2 _ _ 1 _ c2 (fun S3 f3 c3 => hQ S3 ((f1.tr f2).tr f3) ?_)
    rw [z] at c3
    exact c3
  · rw [if_neg z] at hQ
    refine (if_neg z).mpr ?_
    exact hQ S2 (f1.tr f2) c2
theorem MP.le {d m k0 c c1 k : Nat} {f : PF} (h : MP d m k0 c k f) (hc : c ≤ c1) : MP d m k0 c1 k f := by
  intro D S pt tr n Q hV hQ
  rw [show D + c1 = (D + (c1 - c)) + c by omega]
  exact h (D + (c1 - c)) S pt tr n Q hV hQ
theorem mp_P {d m k0 k : Nat} (hd : d < 9) (h0 : k0 < 7) (hk : k < 7) : MP d m k0 3 k (wP d m k0 k) := by
  rcases (show k = 0 ∨ k = 1 ∨ k = 2 ∨ k = 3 ∨ k = 4 ∨ k = 5 ∨ k = 6 by omega) with rfl | rfl | rfl | rfl | rfl | rfl | rfl
  · exact (mp_0 hd).le (by decide)
  · exact (mp_1 hd h0).le (by decide)
  · exact (mp_up (c := 1) (Or.inl rfl) (mp_0 hd)).le (by decide)
  · exact (mp_up (c := 1) (Or.inr (Or.inl rfl)) (mp_0 hd)).le (by decide)
  · exact mp_up (c := 2) (Or.inr (Or.inr (Or.inl rfl))) (mp_1 hd h0)
  · exact mp_up (c := 2) (Or.inr (Or.inr (Or.inr (Or.inl rfl)))) (mp_up (c := 1) (Or.inl rfl) (mp_0 hd))
  · exact (mp_up (c := 1) (Or.inr (Or.inr (Or.inr (Or.inr rfl)))) (mp_0 hd)).le (by decide)
