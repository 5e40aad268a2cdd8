/-! EATING: who is in keeping, the least claim, the bites. -/
def kpB (tk : List Int32) (T : TB) (ru : Option Nat) (d : Nat) : Bool := match ru with
  | none => false
  | some b => decide (kpn tk (T.2.2.2 4 d) (T.2.2.2 4 b) (T.2.1 - T.2.1 / 7 * 7) = 1)
def b2i (b : Bool) : Int32 := if b = true then 1 else 0
theorem e_X4_isKeptBy {S : St} {Q : Int32 → St → Prop} {t d : Nat} {T : TB} {L : List Int32 × List Int32} {ru : Option Nat} (ht : t = 3 ∨ t = 5) (hb : tbC S t T) (hL : lawsC S L) (hwf : wfL L) (hd : d < T.1) (h9 : T.1 ≤ 9) (hru : ∀ b, ru = some b → b < T.1) (h : ∀ S1, FrK S S1 → Q (b2i (kpB L.2 T ru d)) S1) : E_X4_isKeptBy t (enc ru) (nI d) S Q := by
  unfold E_X4_isKeptBy
  cases ru with
  | none =>
    rw [show enc none = -1 from rfl, if_pos (by decide)]
    exact h S FrK.rf
  | some b =>
    have hb9 : b < T.1 := hru b rfl
    rw [show enc (some b) = nI b from rfl, if_neg (nI_pos (by omega)), nI_clamp (by omega), nI_clamp (by omega), show S.2 t 9 d = T.2.2.2 4 d from hb.2.2.2 4 d (by decide) hd, show S.2 t 9 b = T.2.2.2 4 b from hb.2.2.2 4 b (by decide) hb9, hb.2.1, (rf_t ht).2]
    refine ⟨vp_in_nI (by omega) (by decide), vp_in_nI (by omega) (by decide), e_gives7 hL hwf (fun S1 hS1 => ?_)⟩
    have h2 := h S1 hS1
    unfold b2i kpB at h2
    by_cases e : kpn L.2 (T.2.2.2 4 d) (T.2.2.2 4 b) (T.2.1 - T.2.1 / 7 * 7) = 1
    · rw [if_pos (decide_eq_true e)] at h2
      rw [if_pos e]
      exact h2
    · rw [if_neg (fun q => e (of_decide_eq_true q))] at h2
      rw [if_neg e]
      exact h2
theorem e_X7_isInKeeping {S : St} {Q : Int32 → St → Prop} {d : Nat} {T : TB} {L : List Int32 × List Int32} {ru : Option Nat} (hb : tbM S T) (hL : lawsM S L) (hwf : wfL L) (hd : d < T.1) (h9 : T.1 ≤ 9) (hru : ∀ b, ru = some b → b < T.1) (h : ∀ S1, FrN S S1 → Q (b2i (kpB L.2 T ru d)) S1) : E_X7_isInKeeping (nI d) (enc ru) S Q := by
  unfold E_X7_isInKeeping
  cases ru with
  | none =>
    rw [show enc none = -1 from rfl, if_pos rfl]
    exact h S FrN.rf
  | some b =>
    have hb9 : b < T.1 := hru b rfl
    rw [show enc (some b) = nI b from rfl, if_neg (fun e => nI_pos (n := b) (by omega) (by rw [e]; decide))]
    refine e_its (w := 4) (by omega) (by decide) rfl (e_its (w := 4) (by omega) (by decide) rfl ?_)
    rw [hb.2.2.2 4 d (by decide) hd, hb.2.2.2 4 b (by decide) hb9, show (0 : Int32).toNatClampNeg = 0 by decide, hb.2.1]
    refine ⟨vp_in_nI (n := 0) (by decide) (by decide), e_keepingTold hL hwf (fun S1 hS1 => ?_)⟩
    have h2 := h S1 hS1
    unfold b2i kpB at h2
    by_cases e : kpn L.2 (T.2.2.2 4 d) (T.2.2.2 4 b) (T.2.1 - T.2.1 / 7 * 7) = 1
    · rw [if_pos (decide_eq_true e)] at h2
      rw [if_pos e]
      exact h2
    · rw [if_neg (fun q => e (of_decide_eq_true q))] at h2
      rw [if_neg e]
      exact h2
/-- the least claim among the first i that are active -/
def leastN (ac : Nat → Bool) (cl : Nat → Int32) : Nat → Option Nat
  | 0 => none
  | i + 1 => if ac i = false then leastN ac cl i else match leastN ac cl i with
    | none => some i
    | some b => if cl b ≤ cl i then some b else some i
theorem leastN_lt {ac : Nat → Bool} {cl : Nat → Int32} : ∀ {i b : Nat}, leastN ac cl i = some b → b < i ∧ ac b = true := by
  intro i
  induction i with
  | zero => intro b h; cases h
  | succ i ih =>
    intro b h
    unfold leastN at h
    by_cases hz : ac i = false
    · rw [if_pos hz] at h
      exact ⟨Nat.lt_succ_of_lt (ih h).1, (ih h).2⟩
    · rw [if_neg hz] at h
      have hz : ac i = true := by simpa using hz
      cases hs : leastN ac cl i with
      | none =>
        rw [hs] at h
        cases h
        exact ⟨Nat.lt_succ_self i, hz⟩
      | some c =>
        rw [hs] at h
        dsimp only at h
        split at h
        · cases h; exact ⟨Nat.lt_succ_of_lt (ih hs).1, (ih hs).2⟩
        · cases h; exact ⟨Nat.lt_succ_self i, hz⟩
def cnt (ac : Nat → Bool) : Nat → Nat
  | 0 => 0
  | i + 1 => cnt ac i + (if ac i = true then 1 else 0)
theorem cnt_le (ac : Nat → Bool) : ∀ i, cnt ac i ≤ i := by
  intro i
  induction i with
  | zero => exact Nat.le_refl 0
  | succ i ih =>
    unfold cnt
    split <;> omega
theorem cnt_pos {ac : Nat → Bool} : ∀ {i b : Nat}, b < i → ac b = true → 0 < cnt ac i := by
  intro i
  induction i with
  | zero => intro b h; omega
  | succ i ih =>
    intro b h hb
    unfold cnt
    by_cases e : b = i
    · subst e
      rw [if_pos hb]; omega
    · have := ih (b := b) (by omega) hb
      omega
def off (ac : Nat → Bool) (b : Nat) : Nat → Bool := fun j => if j = b then false else ac j
theorem cnt_off {ac : Nat → Bool} {b : Nat} (hb : ac b = true) : ∀ {i : Nat}, cnt (off ac b) i + (if b < i then 1 else 0) = cnt ac i := by
  intro i
  induction i with
  | zero => simp [cnt]
  | succ i ih =>
    unfold cnt
    by_cases e : i = b
    · subst e
      rw [if_neg (Nat.lt_irrefl _)] at ih
      rw [if_neg (by simp [off]), if_pos (Nat.lt_succ_self _), if_pos hb]
      omega
    · have : off ac b i = ac i := by simp [off, e]
      rw [this]
      by_cases h1 : b < i
      · rw [if_pos h1] at ih
        rw [if_pos (show b < i + 1 by omega)]
        omega
      · rw [if_neg h1] at ih
        rw [if_neg (show ¬ b < i + 1 by omega)]
        omega
def biteN (l s : Int32) : Int32 := if l ≤ s then l else s
def eatN (N : Nat) (cl : Nat → Int32) : Nat → (Nat → Int32) → (Nat → Bool) → Int32 → (Nat → Int32) × Int32
  | 0, sz, _, l => (sz, l)
  | k + 1, sz, ac, l => match leastN ac cl N with
    | none => (sz, l)
    | some b => eatN N cl k (upd sz b (sz b - biteN l (sz b))) (off ac b) (l - biteN l (sz b))
theorem eatN_none {N : Nat} {cl : Nat → Int32} {k : Nat} {sz : Nat → Int32} {ac : Nat → Bool} {l : Int32} (h : leastN ac cl N = none) : eatN N cl k sz ac l = (sz, l) := by
  cases k with
  | zero => rfl
  | succ k => unfold eatN; rw [h]
theorem eatN_zero {N : Nat} {cl : Nat → Int32} : ∀ (k : Nat) (sz : Nat → Int32) (ac : Nat → Bool), (∀ j, j < N → 0 ≤ (sz j).toInt) → eatN N cl k sz ac 0 = (sz, 0) := by
  intro k
  induction k with
  | zero => intro sz ac _; rfl
  | succ k ih =>
    intro sz ac hz
    unfold eatN
    cases hs : leastN ac cl N with
    | none => rfl
    | some b =>
      dsimp only
      have hb := (leastN_lt hs).1
      have e : biteN 0 (sz b) = 0 := by
        unfold biteN
        rw [if_pos (Int32.le_iff_toInt_le.mpr (by rw [Int32.toInt_zero]; exact hz b hb))]
      rw [e, Int32.sub_zero, Int32.sub_zero, show upd sz b (sz b) = sz by funext j; unfold upd; split <;> simp_all]
      exact ih sz _ hz
theorem biteN_rg {l s : Int32} (h1 : 0 ≤ l.toInt) (h2 : 0 ≤ s.toInt) : 0 ≤ (biteN l s).toInt ∧ (biteN l s).toInt ≤ l.toInt ∧ (biteN l s).toInt ≤ s.toInt := by
  unfold biteN
  simp only [Int32.le_iff_toInt_le]
  split <;> omega
theorem sub_rg {x y : Int32} (h0 : 0 ≤ y.toInt) (h1 : y.toInt ≤ x.toInt) : (x - y).toInt = x.toInt - y.toInt := by
  have := Int32.toInt_lt x
  exact Jvm.Kit.i32_sub (by omega) (by omega)
/-- bites keep within what was there -/
theorem eatN_rg {N : Nat} {cl : Nat → Int32} : ∀ (k : Nat) (sz : Nat → Int32) (ac : Nat → Bool) (l : Int32), 0 ≤ l.toInt → (∀ j, j < N → 0 ≤ (sz j).toInt) → (0 ≤ (eatN N cl k sz ac l).2.toInt ∧ (eatN N cl k sz ac l).2.toInt ≤ l.toInt) ∧ ∀ j, j < N → 0 ≤ ((eatN N cl k sz ac l).1 j).toInt ∧ ((eatN N cl k sz ac l).1 j).toInt ≤ (sz j).toInt := by
  intro k
  induction k with
  | zero => intro sz ac l hl hz; exact ⟨⟨hl, Int.le_refl _⟩, fun j hj => ⟨hz j hj, Int.le_refl _⟩⟩
  | succ k ih =>
    intro sz ac l hl hz
    unfold eatN
    cases hs : leastN ac cl N with
    | none => exact ⟨⟨hl, Int.le_refl _⟩, fun j hj => ⟨hz j hj, Int.le_refl _⟩⟩
    | some b =>
      dsimp only
      have hb := (leastN_lt hs).1
      obtain ⟨g1, g2, g3⟩ := biteN_rg hl (hz b hb)
      have e1 := sub_rg g1 g2
      have e2 := sub_rg g1 g3
      obtain ⟨r1, r2⟩ := ih (upd sz b (sz b - biteN l (sz b))) (off ac b) (l - biteN l (sz b)) (by omega) (fun j hj => by
        unfold upd
        split
        · omega
        · exact hz j hj)
      refine ⟨by omega, fun j hj => ?_⟩
      have r3 := r2 j hj
      by_cases ej : j = b
      · subst ej
        rw [pk_us] at r3
        omega
      · rw [pk_un ej] at r3
        exact r3
theorem e_X4_leastClaim {S : St} {Q : Int32 → St → Prop} {t N : Nat} {ac : Nat → Bool} {cl : Nat → Int32} (h9 : N ≤ 9) (hN : S.1 t 2 = nI N) (hcl : ∀ j, 0 ≤ (cl j).toInt) (hr : ∀ j, j < N → S.2 t 10 j = if ac j = true then cl j else -1) (h : Q (enc (leastN ac cl N)) S) : E_X4_leastClaim t S Q := by
  have key : ∀ (n i : Nat), i + n = N → L_X4_leastClaim_4 t Q (n + 1) (enc (leastN ac cl i)) (nI i) S := by
    intro n
    induction n with
    | zero =>
      intro i hi
      unfold L_X4_leastClaim_4
      have e : i = N := by omega
      rw [hN, e, if_pos (nI_le (Nat.le_refl _) (by omega))]
      exact h
    | succ n ih =>
      intro i hi
      have hi1 : i < N := by omega
      have hv : vp_in (nI i) 9 := vp_in_nI (by omega) (by decide)
      have hk := ih (i + 1) (by omega)
      unfold L_X4_leastClaim_4
      rw [hN, if_neg (nI_ge hi1 (by omega)), nI_clamp (by omega), hr i hi1]
      refine ⟨hv, ?_⟩
      simp only [nmI]
      rw [nI_1]
      unfold leastN at hk
      by_cases ha : ac i = true
      · rw [if_neg (by rw [ha]; decide)] at hk
        rw [if_pos ha, if_neg (by have := hcl i; rw [Int32.lt_iff_toInt_lt, Int32.toInt_zero]; omega)]
        cases hs : leastN ac cl i with
        | none =>
          rw [hs] at hk
          rw [show enc none = -1 from rfl, if_pos (by decide)]
          exact hk
        | some b =>
          obtain ⟨hbi, hba⟩ := leastN_lt hs
          rw [hs] at hk
          dsimp only at hk
          rw [show enc (some b) = nI b from rfl, if_neg (nI_pos (by omega)), nI_clamp (by omega), hr b (by omega), if_pos hba]
          refine ⟨hv, vp_in_nI (by omega) (by decide), ?_⟩
          by_cases hc : cl b ≤ cl i
          · rw [if_pos hc] at hk ⊢; exact hk
          · rw [if_neg hc] at hk ⊢; exact hk
      · rw [if_pos (by simpa using ha)] at hk
        rw [if_neg ha, if_pos (by decide)]
        exact hk
  exact ⟨N + 1, key N 0 (by omega)⟩
theorem e_X7_leastClaim {S : St} {Q : Int32 → St → Prop} {N : Nat} {ac : Nat → Bool} {cl : Nat → Int32} (h9 : N ≤ 9) (hN : S.2 17 0 5 = nI N) (hr : ∀ j, j < N → S.2 17 12 j = cl j) (hm : ∀ j, j < N → S.2 17 13 j = b2i (ac j)) (h : Q (enc (leastN ac cl N)) S) : E_X7_leastClaim S Q := by
  have key : ∀ (n i : Nat), i + n = N → L_X7_leastClaim_4 Q (n + 1) (enc (leastN ac cl i)) (nI i) S := by
    intro n
    induction n with
    | zero =>
      intro i hi
      unfold L_X7_leastClaim_4
      have e : i = N := by omega
      rw [show (5 : Int32).toNatClampNeg = 5 by decide, hN, e, if_pos (nI_le (Nat.le_refl _) (by omega))]
      exact ⟨vp_in_nI (n := 5) (by decide) (by decide), h⟩
    | succ n ih =>
      intro i hi
      have hi1 : i < N := by omega
      have hv : vp_in (nI i) 9 := vp_in_nI (by omega) (by decide)
      have hk := ih (i + 1) (by omega)
      unfold L_X7_leastClaim_4
      rw [show (5 : Int32).toNatClampNeg = 5 by decide, hN, if_neg (nI_ge hi1 (by omega)), nI_clamp (by omega), hm i hi1]
      refine ⟨vp_in_nI (n := 5) (by decide) (by decide), hv, ?_⟩
      simp only [nmI]
      rw [nI_1]
      unfold leastN at hk
      by_cases ha : ac i = true
      · rw [if_neg (by rw [ha]; decide)] at hk
        rw [if_neg (by rw [ha]; decide)]
        cases hs : leastN ac cl i with
        | none =>
          rw [hs] at hk
          rw [show enc none = -1 from rfl, if_pos rfl]
          exact hk
        | some b =>
          obtain ⟨hbi, hba⟩ := leastN_lt hs
          rw [hs] at hk
          dsimp only at hk
          rw [show enc (some b) = nI b from rfl, if_neg (fun e => nI_pos (n := b) (by omega) (by rw [e]; decide)), nI_clamp (by omega), hr b (by omega), hr i hi1]
          refine ⟨hv, vp_in_nI (by omega) (by decide), ?_⟩
          by_cases hc : cl b ≤ cl i
          · rw [if_pos hc] at hk ⊢; exact hk
          · rw [if_neg hc] at hk ⊢; exact hk
      · have ha : ac i = false := by simpa using ha
        rw [if_pos ha] at hk
        rw [if_pos (by rw [ha]; decide)]
        exact hk
  exact ⟨N + 1, key N 0 (by omega)⟩
