/-! THE LAW'S LOOP -/
section LLS
variable {V : LV}
theorem lf_gt (C : LX V) {SC SM : St} {pc : Nat} {L : List (Nat × Value)} {st : List Value} {x y : Int32} {off : Int} {tgt : Nat} (hdg : decode code pc = .ok (.if_icmp .gt off, 3)) (ht : (pc : Int) + off = (tgt : Int)) (kt : y < x → LF V SC SM tgt L st) (kf : ¬ y < x → LF V SC SM (pc + 3) L st) : LF V SC SM pc L (.int y :: .int x :: st) := fun H locs ls hP hD hS hlv => lv_icmp_gt C.1 C.2.1 hdg ht (fun h => kt h H locs ls hP hD hS hlv) (fun h => kf h H locs ls hP hD hS hlv)
theorem lim_gt {k N : Nat} (hN : N ≤ 3072) (hk : k ≤ N) : (Int32.ofNat N - 6 < nI k) ↔ N < k + 6 := by
  have e1 : (Int32.ofNat N).toInt = (N : Int) := nI_toInt (n := N) (by omega)
  have e6 : (6 : Int32).toInt = 6 := by decide
  have e2 : (Int32.ofNat N - 6).toInt = (N : Int) - 6 := by
    rw [Jvm.Kit.i32_sub (by rw [e1, e6]; omega) (by rw [e1, e6]; omega), e1, e6]
  rw [Int32.lt_iff_toInt_lt, e2, nI_toInt (by omega)]
  omega
theorem nI_plus {k : Nat} (j : Nat) : nI k + nI j = nI (k + j) := by
  unfold nI
  exact (Int32.ofNat_add k j).symm
theorem ar_in {k : Nat} (hN : uN V ≤ 3072) (hk : k + 6 ≤ uN V) : AR V (nI k) := by
  have g : ∀ j : Nat, j < 6 → vp_in (nI k + nI j) (uN V) := fun j hj => by
    rw [nI_plus]
    exact vp_in_nI (by omega) (by omega)
  exact ⟨g 1 (by decide), g 2 (by decide), g 3 (by decide), g 4 (by decide), g 5 (by decide)⟩
/-- one turn: whatever the script's word is -/
theorem law_switch (C : LX V) {c k : Nat} {SC SM : St} (hN : uN V ≤ 3072) (hk : k + 6 ≤ uN V) (hc : c < 2 ^ 31) (R : Rel c SC SM) (x : Int32) (kk : KK V c (nI k)) : LF V SC SM 33 (LL V (nI k)) [.int x] := by
  have h : AR V (nI k) := ar_in hN hk
  by_cases h0 : x.toInt < 0 ∨ 34 < x.toInt
  · exact lf_tsOut C (tgt := 1283) dL_law_33 h0 (by decide) (kk _ _ R.up)
  · obtain ⟨j, hj, hz⟩ : ∃ j : Nat, j < 35 ∧ x.toInt = (j : Int) := ⟨x.toInt.toNat, by omega, by omega⟩
    match j, hj, hz with
    | 0, _, hz => exact lf_tsIn C 0 (tgt := 188) dL_law_33 hz (by decide) (by decide) rfl (by decide) (k_dish C h R kk)
    | 1, _, hz => exact lf_tsIn C 1 (tgt := 231) dL_law_33 hz (by decide) (by decide) rfl (by decide) (k_dishIs C h R kk)
    | 2, _, hz => exact lf_tsIn C 2 (tgt := 264) dL_law_33 hz (by decide) (by decide) rfl (by decide) (k_become C h R kk)
    | 3, _, hz => exact lf_tsIn C 3 (tgt := 297) dL_law_33 hz (by decide) (by decide) rfl (by decide) (k_as C h R kk)
    | 4, _, hz => exact lf_tsIn C 4 (tgt := 330) dL_law_33 hz (by decide) (by decide) rfl (by decide) (k_serve C h R kk)
    | 5, _, hz => exact lf_tsIn C 5 (tgt := 363) dL_law_33 hz (by decide) (by decide) rfl (by decide) (k_season C h R kk)
    | 6, _, hz => exact lf_tsIn C 6 (tgt := 396) dL_law_33 hz (by decide) (by decide) rfl (by decide) (k_rules C h R kk)
    | 7, _, hz => exact lf_tsIn C 7 (tgt := 409) dL_law_33 hz (by decide) (by decide) rfl (by decide) (k_feed C h R kk)
    | 8, _, hz => exact lf_tsIn C 8 (tgt := 472) dL_law_33 hz (by decide) (by decide) rfl (by decide) (k_text C h R kk)
    | 9, _, hz => exact lf_tsIn C 9 (tgt := 495) dL_law_33 hz (by decide) (by decide) rfl (by decide) (k_untell C h R kk)
    | 10, _, hz => exact lf_tsIn C 10 (tgt := 518) dL_law_33 hz (by decide) (by decide) rfl (by decide) (k_law C h R kk)
    | 11, _, hz => exact lf_tsIn C 11 (tgt := 571) dL_law_33 hz (by decide) (by decide) rfl (by decide) (k_meal C h R kk)
    | 12, _, hz => exact lf_tsIn C 12 (tgt := 594) dL_law_33 hz (by decide) (by decide) rfl (by decide) (k_meals C h R kk)
    | 13, _, hz => exact lf_tsIn C 13 (tgt := 627) dL_law_33 hz (by decide) (by decide) rfl (by decide) (k_loose C h R kk)
    | 14, _, hz => exact lf_tsIn C 14 (tgt := 650) dL_law_33 hz (by decide) (by decide) rfl (by decide) (k_seed C h R kk)
    | 15, _, hz => exact lf_tsIn C 15 (tgt := 673) dL_law_33 hz (by decide) (by decide) rfl (by decide) (k_then C h R kk)
    | 16, _, hz => exact lf_tsIn C 16 (tgt := 716) dL_law_33 hz (by decide) (by decide) rfl (by decide) (k_gone C h R kk)
    | 17, _, hz => exact lf_tsIn C 17 (tgt := 749) dL_law_33 hz (by decide) (by decide) rfl (by decide) (k_needs C h R kk)
    | 18, _, hz => exact lf_tsIn C 18 (tgt := 772) dL_law_33 hz (by decide) (by decide) rfl (by decide) (k_clears C h R kk)
    | 19, _, hz => exact lf_tsIn C 19 (tgt := 825) dL_law_33 hz (by decide) (by decide) rfl (by decide) (k_brings C h R kk)
    | 20, _, hz => exact lf_tsIn C 20 (tgt := 858) dL_law_33 hz (by decide) (by decide) rfl (by decide) (k_odds C h R kk)
    | 21, _, hz => exact lf_tsIn C 21 (tgt := 881) dL_law_33 hz (by decide) (by decide) rfl (by decide) (k_fits C h R kk)
    | 22, _, hz => exact lf_tsIn C 22 (tgt := 914) dL_law_33 hz (by decide) (by decide) rfl (by decide) (k_voice C h R kk)
    | 23, _, hz => exact lf_tsIn C 23 (tgt := 957) dL_law_33 hz (by decide) (by decide) rfl (by decide) (k_body C h R kk)
    | 24, _, hz => exact lf_tsIn C 24 (tgt := 980) dL_law_33 hz (by decide) (by decide) rfl (by decide) (k_sheet C h R kk)
    | 25, _, hz => exact lf_tsIn C 25 (tgt := 1023) dL_law_33 hz (by decide) (by decide) rfl (by decide) (k_put C h R kk)
    | 26, _, hz => exact lf_tsIn C 26 (tgt := 1066) dL_law_33 hz (by decide) (by decide) rfl (by decide) (k_move C h R kk)
    | 27, _, hz => exact lf_tsIn C 27 (tgt := 1129) dL_law_33 hz (by decide) (by decide) rfl (by decide) (k_serves C h R kk)
    | 28, _, hz => exact lf_tsIn C 28 (tgt := 1152) dL_law_33 hz (by decide) (by decide) rfl (by decide) (k_judge C h R kk)
    | 29, _, hz => exact lf_tsIn C 29 (tgt := 1175) dL_law_33 hz (by decide) (by decide) rfl (by decide) (k_image C h R kk)
    | 30, _, hz => exact lf_tsIn C 30 (tgt := 1188) dL_law_33 hz (by decide) (by decide) rfl (by decide) (k_restore C h hc R kk)
    | 31, _, hz => exact lf_tsIn C 31 (tgt := 1201) dL_law_33 hz (by decide) (by decide) rfl (by decide) (k_tell C h R kk)
    | 32, _, hz => exact lf_tsIn C 32 (tgt := 1224) dL_law_33 hz (by decide) (by decide) rfl (by decide) (k_check C h R kk)
    | 33, _, hz => exact lf_tsIn C 33 (tgt := 1237) dL_law_33 hz (by decide) (by decide) rfl (by decide) (k_count C h R kk)
    | 34, _, hz => exact lf_tsIn C 34 (tgt := 1260) dL_law_33 hz (by decide) (by decide) rfl (by decide) (k_told C h R kk)
    | j + 35, hj, _ => exact absurd hj (by omega)
/-- the loop, from its head, behind c calls of six ints -/
theorem law_loop (C : LX V) (hN : uN V ≤ 3072) : ∀ (n k c : Nat) (SC SM : St), uN V < k + 6 * n → k ≤ uN V → c ≤ k → Rel c SC SM → LF V SC SM 18 (LL V (nI k)) [] := by
  intro n
  induction n with
  | zero => exact fun k c SC SM h1 h2 _ _ => absurd h2 (by omega)
  | succ n ih =>
    intro k c SC SM h1 h2 h3 R
    refine lf_iload_n C dL_law_18 rfl 0 rfl ?_
    refine lf_aload_n C dL_law_19 rfl 3 rfl ?_
    refine lf_alen C dL_law_20 ?_
    refine lf_bipush (v := 6) C dL_law_21 (by decide) ?_
    refine lf_isub C dL_law_23 ?_
    refine lf_gt C (tgt := 1289) dL_law_24 (by decide) (fun _ => ?_) (fun hg => ?_)
    · refine lf_iconst (v := 1) C dL_law_1289 (by decide) ?_
      exact lf_end C dL_law_1290
    · have hk : k + 6 ≤ uN V := Nat.not_lt.mp (fun e => hg ((lim_gt hN h2).mpr e))
      refine lf_aload_n C dL_law_27 rfl 3 rfl ?_
      refine lf_iload_n C dL_law_28 rfl 0 rfl ?_
      refine lf_iald C (vp_in_nI (by omega) (by omega)) dL_law_29 ?_
      refine lf_bipush (v := 63) C dL_law_30 (by decide) ?_
      refine lf_iand C dL_law_32 ?_
      refine law_switch C hN hk (by omega) R _ (fun SC1 SM1 R1 => ?_)
      refine lf_iinc (v := nI (k + 6)) (L1 := LL V (nI (k + 6))) C dL_law_1283 0 rfl (nI_plus 6) (by decide) rfl ?_
      refine lf_goto C (tgt := 18) dL_law_1286 (by decide) ?_
      exact ih (k + 6) (c + 1) SC1 SM1 (by omega) hk (by omega) R1
end LLS
