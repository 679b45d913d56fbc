theorem kl_18 {T : Nat → Int} {L f t : Nat} {C R : MM} (h : LNP T L 2 f t C R) : OUT T L 2 18 f C R (sX7_readsLine_b18 79 1 ((2 : Nat) : Int) ((18 : Nat) : Int) C) (sX12_clueLine 359 1935767923 (f : Int) R) := by
  obtain ⟨hE, hT, hF, hB, hH, hD, hg⟩ := h
  have hfu : sX7_isFull 79 ((18 : Nat) : Int) C = some (if C 96 4 = 8 then 1 else 0) := fu_e hH (by omega)
  have hB0 : 0 ≤ R 370 0 ∧ R 370 0 ≤ 8 := ⟨hB.1, hB.2.1⟩
  have hd : C 79 5 = 0 → CC C 95 (R 370) ∧ CV (R 370) := fun z => hD z
  obtain ⟨C0, Q, R0, f0, t0, k0, a1, a2, a3, aE, aT, aF, aff, aW, aV, a23, a371, aD⟩ := headF (s := ((2 : Nat) : Int)) (k := 18) (c := 0) (most := 8) hE hT hF (by omega) hfu (i01 _ _) (fun z => by rw [i1f, show C 96 4 = R 370 0 from (hd z).1.1]) ⟨by omega, by omega⟩ ⟨by omega, by omega⟩ (by omega)
  generalize hrr : sX12_clueLine 359 1935767923 (f : Int) R = rr
  generalize hrc : sX7_readsLine_b18 79 1 ((2 : Nat) : Int) ((18 : Nat) : Int) C = rc
  rw [a1] at hrc
  have hrc := hrc.symm
  unfold sX12_clueLine sX12_clueLine_b0 sX12_clueLine_b49 sX12_clueLine_b70 sX12_clueLine_b84 sX12_clueLine_b111 sX12_clueLine_b127 at hrr
  simp only [if_pos (show wJ 1935767923 = 1935767923 by decide +kernel), if_neg (show ¬ wJ 1935767923 = 6383986 by decide +kernel), if_neg (show ¬ wJ 1935767923 = 444300622437 by decide +kernel), if_neg (show ¬ wJ 1935767923 = 126931137819237 by decide +kernel), if_neg (show ¬ wJ 1935767923 = 500136506472 by decide +kernel), if_neg (show ¬ wI 0 = (-1) by decide +kernel), if_neg (show ¬ 0 < wI 0 by decide +kernel)] at hrr
  rw [show sX12_full 359 0 8 (f : Int) R = some Q from a2, ob_s, a3, ob_s] at hrr
  rw [ob_s, g359_21] at hrr
  obtain ⟨R0w, eR0w⟩ : ∃ N : MM, N = mU R0 371 1 (-1) := ⟨_, rfl⟩
  rw [← eR0w] at hrr
  have wR0w : ∀ a, a ≠ 371 → R0w a = R0 a := fun a ha => by rw [eR0w]; exact mU_row _ _ ha
  have aEw := trE wR0w aE
  have aTw := trT wR0w aT
  have aFw := trF wR0w aF
  have gR0w : R0w 359 23 = R0 359 23 := by rw [wR0w 359 (by omega)]
  have WR0w := trW wR0w aV
  have x1R0w : R0w 371 1 = (-1) := by rw [eR0w, mU_eq]
  rcases num2 aEw aTw aFw (s := ((2 : Nat) : Int)) (k := 18) (i := 0) (r := 1) (lo := 0) (up := 7) (bu := (-1)) (by omega) (by decide) (by omega) (fun z => absurd rfl z) ⟨by omega, by omega⟩ ⟨by omega, by omega⟩ ⟨by omega, by omega⟩ (hok_p (by decide +kernel) (by decide +kernel) (by omega)) 99999 with ⟨x1, x2⟩ | ⟨C1, R1, f1, t1, k1, v0, x1, x2, p0_E, p0_T, p0_F, p0_o, p0_l, p0_A, p0_B, p0_c, p0_r, p0_0, p0_9, p0_g⟩
  · rw [show sX12_take 359 1 0 7 R0w = _ from take0 x2] at hrr
    exact outF (R' := mU R0w 359 17 (f0 : Int)) (hrc.trans x1) (hrr.symm.trans rfl) aTw.1.1 (mU_eq _ _ _ _) hH aW (XB_u (WB_X WR0w))
  rw [show sX12_take 359 1 0 7 R0w = _ from take1 x2, ob_s] at hrr
  dsimp only at hrr
  rw [i10] at hrr
  have hrc := hrc.trans x1
  have p0_W := WA_t aW (WA_n p0_A)
  have p0_V := WB_t WR0w (WB_n p0_B)
  rcases num2 p0_E p0_T p0_F (s := ((2 : Nat) : Int)) (k := 18) (i := 1) (r := 2) (lo := 0) (up := 7) (bu := (-1)) (by omega) (by decide) (by omega) (fun z => by rw [p0_c]; exact ⟨by omega, by omega⟩) ⟨by omega, by omega⟩ ⟨by omega, by omega⟩ ⟨by omega, by omega⟩ (hok_p (by decide +kernel) (by decide +kernel) (by omega)) 99998 with ⟨x1, x2⟩ | ⟨C2, R2, f2, t2, k2, v1, x1, x2, p1_E, p1_T, p1_F, p1_o, p1_l, p1_A, p1_B, p1_c, p1_r, p1_0, p1_9, p1_g⟩
  · rw [show sX12_take 359 2 0 7 R1 = _ from take0 x2] at hrr
    exact outF (R' := mU R1 359 17 (f1 : Int)) (hrc.trans x1) (hrr.symm.trans rfl) p0_T.1.1 (mU_eq _ _ _ _) hH p0_W (XB_u (WB_X p0_V))
  rw [show sX12_take 359 2 0 7 R1 = _ from take1 x2, ob_s] at hrr
  dsimp only at hrr
  rw [i10] at hrr
  have hrc := hrc.trans x1
  have p1_W := WA_t p0_W (WA_n p1_A)
  have p1_V := WB_t p0_V (WB_n p1_B)
  have p1_c0 : C2 114 0 = v0 := by rw [p1_A 114 0 (by omega) (by omega)]; exact p0_c
  have p1_r0 : R2 371 1 = v0 := by rw [p1_B 371 1 (by omega) (by omega)]; exact p0_r
  rw [ob_s] at hrr
  obtain ⟨R2w, eR2w⟩ : ∃ N : MM, N = mU R2 371 0 0 := ⟨_, rfl⟩
  rw [← eR2w] at hrr
  have wR2w : ∀ a, a ≠ 371 → R2w a = R2 a := fun a ha => by rw [eR2w]; exact mU_row _ _ ha
  have p1_Ew := trE wR2w p1_E
  have p1_Tw := trT wR2w p1_T
  have p1_Fw := trF wR2w p1_F
  have gR2w : R2w 359 23 = R2 359 23 := by rw [wR2w 359 (by omega)]
  have WR2w := trW wR2w p1_V
  have x0R2w : R2w 371 0 = 0 := by rw [eR2w, mU_eq]
  have y0R2w : R2w 371 1 = v0 := by rw [eR2w, mU_ne _ _ (by omega)]; exact p1_r0
  have y1R2w : R2w 371 2 = v1 := by rw [eR2w, mU_ne _ _ (by omega)]; exact p1_r
  have hrc := hrc.trans (numE (k := 18) (by omega) 99997)
  have h5 : C2 79 5 = 0 → (C 79 5 = 0 ∧ R 370 0 ≠ 8) ∧ (0 ≤ v0 ∧ v0 ≤ 7 ∧ v0 ≠ -1) ∧ (0 ≤ v1 ∧ v1 ≤ 7 ∧ v1 ≠ -1) := by
    intro z
    obtain ⟨p1_q, p1_z⟩ := (gz p1_g).1 z
    obtain ⟨p0_q, p0_z⟩ := (gz p0_g).1 p1_z
    exact ⟨aD p0_z, p0_q, p1_q⟩
  have w370 : R2w 370 = R 370 := WR2w.1 370 (by omega) (by omega)
  have w22 : R2w 359 22 = R 359 22 := WR2w.2
  obtain ⟨n, hn⟩ := Int.eq_ofNat_of_zero_le hB0.1
  by_cases hmost : R 370 0 = 8
  · rw [show sX12_keep 359 0 9 3 8 R2w = _ from keepN (c := 0) (by omega) (by rw [w370]; exact hmost), ob_s] at hrr
    exact outG hrc hrr.symm p1_Ew p1_Tw p1_Fw (by omega) (fun a _ _ _ => rfl) (fun j _ => rfl) (RB_c hB w370 w22) p1_W (WB_X WR2w) hH (fun z => absurd hmost (h5 z).1.2)
  · have ek := keepB (R := R2w) (c := 0) (n := n) (p := 9 + 3 * n) (w := 3) (fr := 9) (most := 8) (by omega) (by rw [w370]; exact hn) (by omega) (by omega) (by omega) (by omega)
    rw [show sX12_keep 359 0 9 3 8 R2w = _ from ek, ob_s] at hrr
    have hrow : ∀ a, a ≠ 370 → mU (kpR R2w (9 + 3 * n) 3) 370 0 ((n : Int) + 1) a = R2w a := fun a ha => kp_r ha
    refine outG hrc hrr.symm p1_Ew p1_Tw p1_Fw (by omega) (fun a _ h _ => hrow a h) (fun j _ => by rw [hrow 359 (by omega)]) ?_ p1_W (WB_X WR2w) hH (fun z C'' hrw h12 h114 => ?_)
    · refine ⟨by rw [kp_c]; omega, ?_, fun z => absurd z (by omega), ?_, ?_⟩
      · rw [kp_c]; show (n : Int) + 1 ≤ 8; omega
      · intro z; exact absurd z (by omega)
      · rw [hrow 359 (by omega), w22]; exact hB.2.2.2.2
    · obtain ⟨⟨z1, z2⟩, y0, y1⟩ := h5 z
      have hC0 : C'' 114 0 = v0 := by rw [h114]; exact p1_c0
      have hC1 : C'' 114 1 = v1 := by rw [h114]; exact p1_c
      have hd0 := hd z1
      have hdc : CC C'' 95 (R 370) := CC_c (fun j hj => hrw _ (by omega) (by omega)) hd0.1
      have hcn : C'' 96 4 = (n : Int) := (hdc.1).trans hn
      have hl := addL (C := C'') (q := 96) (m := 8) (n := n) (x := 0) (y := v0) (z := v1) LG_96 (by rw [hrw _ (by omega) (by omega)]; exact hH.1.2.1) hcn (by omega) (by omega)
      refine ⟨aL C'' 96 n 0 v0 v1, ?_, ?_, HM_96 (HM_c hH (C' := C'') (fun a ha hb => hrw a (by omega) (by omega))) (by omega), fun a ha => aL_f (by omega), fun j hj => by rw [aL_f (by omega)]⟩
      · unfold sX7_keep sX7_keep_b0
        rw [show wI ((18 : Nat) : Int) = 18 by decide +kernel, if_pos (by omega), if_pos (by omega), if_pos rfl, g79_2, g95_0, g79_7, hC0, hC1, hl, ob_s]
      · show CC _ 95 _ ∧ CV _
        exact CC_a ⟨hdc, hd0.2⟩ hn (by omega) ⟨by omega, by omega, by omega, by omega, by omega, by omega, by omega⟩ kp_c (((kp_i (i := 0) (by omega) (by omega)).trans x0R2w).trans (by omega)) ((show 10 + 3 * n = 9 + 3 * n + 1 by omega) ▸ (kp_i (i := 1) (by omega) (by omega)).trans y0R2w) ((show 11 + 3 * n = 9 + 3 * n + 2 by omega) ▸ (kp_i (i := 2) (by omega) (by omega)).trans y1R2w) (fun j hj hj' => by rw [kp_o hj (by omega), w370])
theorem kl_19 {T : Nat → Int} {L f t : Nat} {C R : MM} (h : LNP T L 2 f t C R) : OUT T L 2 19 f C R (sX7_readsLine_b18 79 1 ((2 : Nat) : Int) ((19 : Nat) : Int) C) (sX12_clueLine 359 6383986 (f : Int) R) := by
  obtain ⟨hE, hT, hF, hB, hH, hD, hg⟩ := h
  have hfu : sX7_isFull 79 ((19 : Nat) : Int) C = some (if C 96 4 = 8 then 1 else 0) := fu_e hH (by omega)
  have hB0 : 0 ≤ R 370 0 ∧ R 370 0 ≤ 8 := ⟨hB.1, hB.2.1⟩
  have hd : C 79 5 = 0 → CC C 95 (R 370) ∧ CV (R 370) := fun z => hD z
  obtain ⟨C0, Q, R0, f0, t0, k0, a1, a2, a3, aE, aT, aF, aff, aW, aV, a23, a371, aD⟩ := headF (s := ((2 : Nat) : Int)) (k := 19) (c := 0) (most := 8) hE hT hF (by omega) hfu (i01 _ _) (fun z => by rw [i1f, show C 96 4 = R 370 0 from (hd z).1.1]) ⟨by omega, by omega⟩ ⟨by omega, by omega⟩ (by omega)
  generalize hrr : sX12_clueLine 359 6383986 (f : Int) R = rr
  generalize hrc : sX7_readsLine_b18 79 1 ((2 : Nat) : Int) ((19 : Nat) : Int) C = rc
  rw [a1] at hrc
  have hrc := hrc.symm
  unfold sX12_clueLine sX12_clueLine_b0 sX12_clueLine_b49 sX12_clueLine_b70 sX12_clueLine_b84 sX12_clueLine_b111 sX12_clueLine_b127 at hrr
  simp only [if_neg (show ¬ wJ 6383986 = 1935767923 by decide +kernel), if_pos (show wJ 6383986 = 6383986 by decide +kernel), if_neg (show ¬ wJ 6383986 = 444300622437 by decide +kernel), if_neg (show ¬ wJ 6383986 = 126931137819237 by decide +kernel), if_neg (show ¬ wJ 6383986 = 500136506472 by decide +kernel), if_neg (show ¬ wI 1 = (-1) by decide +kernel), if_pos (show 0 < wI 1 by decide +kernel)] at hrr
  rw [show sX12_full 359 0 8 (f : Int) R = some Q from a2, ob_s, a3, ob_s] at hrr
  rw [ob_s, g359_21] at hrr
  obtain ⟨R0w, eR0w⟩ : ∃ N : MM, N = mU R0 371 1 (-1) := ⟨_, rfl⟩
  rw [← eR0w] at hrr
  have wR0w : ∀ a, a ≠ 371 → R0w a = R0 a := fun a ha => by rw [eR0w]; exact mU_row _ _ ha
  have aEw := trE wR0w aE
  have aTw := trT wR0w aT
  have aFw := trF wR0w aF
  have gR0w : R0w 359 23 = R0 359 23 := by rw [wR0w 359 (by omega)]
  have WR0w := trW wR0w aV
  have x1R0w : R0w 371 1 = (-1) := by rw [eR0w, mU_eq]
  rcases num2 aEw aTw aFw (s := ((2 : Nat) : Int)) (k := 19) (i := 0) (r := 2) (lo := 0) (up := 7) (bu := (-1)) (by omega) (by decide) (by omega) (fun z => absurd rfl z) ⟨by omega, by omega⟩ ⟨by omega, by omega⟩ ⟨by omega, by omega⟩ (hok_p (by decide +kernel) (by decide +kernel) (by omega)) 99999 with ⟨x1, x2⟩ | ⟨C1, R1, f1, t1, k1, v0, x1, x2, p0_E, p0_T, p0_F, p0_o, p0_l, p0_A, p0_B, p0_c, p0_r, p0_0, p0_9, p0_g⟩
  · rw [show sX12_take 359 2 0 7 R0w = _ from take0 x2] at hrr
    exact outF (R' := mU R0w 359 17 (f0 : Int)) (hrc.trans x1) (hrr.symm.trans rfl) aTw.1.1 (mU_eq _ _ _ _) hH aW (XB_u (WB_X WR0w))
  rw [show sX12_take 359 2 0 7 R0w = _ from take1 x2, ob_s] at hrr
  dsimp only at hrr
  rw [i10] at hrr
  have hrc := hrc.trans x1
  have p0_W := WA_t aW (WA_n p0_A)
  have p0_V := WB_t WR0w (WB_n p0_B)
  have p0_x1 : R1 371 1 = (-1) := by rw [p0_B 371 1 (by omega) (by omega)]; exact x1R0w
  rw [ob_s] at hrr
  obtain ⟨R1w, eR1w⟩ : ∃ N : MM, N = mU R1 371 0 1 := ⟨_, rfl⟩
  rw [← eR1w] at hrr
  have wR1w : ∀ a, a ≠ 371 → R1w a = R1 a := fun a ha => by rw [eR1w]; exact mU_row _ _ ha
  have p0_Ew := trE wR1w p0_E
  have p0_Tw := trT wR1w p0_T
  have p0_Fw := trF wR1w p0_F
  have gR1w : R1w 359 23 = R1 359 23 := by rw [wR1w 359 (by omega)]
  have WR1w := trW wR1w p0_V
  have x1R1w : R1w 371 1 = (-1) := by rw [eR1w, mU_ne _ _ (by omega)]; exact p0_x1
  have x0R1w : R1w 371 0 = 1 := by rw [eR1w, mU_eq]
  have y0R1w : R1w 371 2 = v0 := by rw [eR1w, mU_ne _ _ (by omega)]; exact p0_r
  have hrc := hrc.trans (numE (k := 19) (by omega) 99998)
  have h5 : C1 79 5 = 0 → (C 79 5 = 0 ∧ R 370 0 ≠ 8) ∧ (0 ≤ v0 ∧ v0 ≤ 7 ∧ v0 ≠ -1) := by
    intro z
    obtain ⟨p0_q, p0_z⟩ := (gz p0_g).1 z
    exact ⟨aD p0_z, p0_q⟩
  have w370 : R1w 370 = R 370 := WR1w.1 370 (by omega) (by omega)
  have w22 : R1w 359 22 = R 359 22 := WR1w.2
  obtain ⟨n, hn⟩ := Int.eq_ofNat_of_zero_le hB0.1
  by_cases hmost : R 370 0 = 8
  · rw [show sX12_keep 359 0 9 3 8 R1w = _ from keepN (c := 0) (by omega) (by rw [w370]; exact hmost), ob_s] at hrr
    exact outG hrc hrr.symm p0_Ew p0_Tw p0_Fw (by omega) (fun a _ _ _ => rfl) (fun j _ => rfl) (RB_c hB w370 w22) p0_W (WB_X WR1w) hH (fun z => absurd hmost (h5 z).1.2)
  · have ek := keepB (R := R1w) (c := 0) (n := n) (p := 9 + 3 * n) (w := 3) (fr := 9) (most := 8) (by omega) (by rw [w370]; exact hn) (by omega) (by omega) (by omega) (by omega)
    rw [show sX12_keep 359 0 9 3 8 R1w = _ from ek, ob_s] at hrr
    have hrow : ∀ a, a ≠ 370 → mU (kpR R1w (9 + 3 * n) 3) 370 0 ((n : Int) + 1) a = R1w a := fun a ha => kp_r ha
    refine outG hrc hrr.symm p0_Ew p0_Tw p0_Fw (by omega) (fun a _ h _ => hrow a h) (fun j _ => by rw [hrow 359 (by omega)]) ?_ p0_W (WB_X WR1w) hH (fun z C'' hrw h12 h114 => ?_)
    · refine ⟨by rw [kp_c]; omega, ?_, fun z => absurd z (by omega), ?_, ?_⟩
      · rw [kp_c]; show (n : Int) + 1 ≤ 8; omega
      · intro z; exact absurd z (by omega)
      · rw [hrow 359 (by omega), w22]; exact hB.2.2.2.2
    · obtain ⟨⟨z1, z2⟩, y0⟩ := h5 z
      have hC0 : C'' 114 0 = v0 := by rw [h114]; exact p0_c
      have hd0 := hd z1
      have hdc : CC C'' 95 (R 370) := CC_c (fun j hj => hrw _ (by omega) (by omega)) hd0.1
      have hcn : C'' 96 4 = (n : Int) := (hdc.1).trans hn
      have hl := addL (C := C'') (q := 96) (m := 8) (n := n) (x := (((19 : Nat) : Int) - 18)) (y := (-1)) (z := v0) LG_96 (by rw [hrw _ (by omega) (by omega)]; exact hH.1.2.1) hcn (by omega) (by omega)
      refine ⟨aL C'' 96 n (((19 : Nat) : Int) - 18) (-1) v0, ?_, ?_, HM_96 (HM_c hH (C' := C'') (fun a ha hb => hrw a (by omega) (by omega))) (by omega), fun a ha => aL_f (by omega), fun j hj => by rw [aL_f (by omega)]⟩
      · unfold sX7_keep sX7_keep_b0
        rw [show wI ((19 : Nat) : Int) = 19 by decide +kernel, if_pos (by omega), if_pos (by omega), if_neg (by omega), if_neg (by omega), g79_2, g95_0, g79_7, hC0, hl, ob_s]
      · show CC _ 95 _ ∧ CV _
        exact CC_a ⟨hdc, hd0.2⟩ hn (by omega) ⟨by omega, by omega, by omega, by omega, by omega, by omega, by omega⟩ kp_c (((kp_i (i := 0) (by omega) (by omega)).trans x0R1w).trans (by omega)) ((show 10 + 3 * n = 9 + 3 * n + 1 by omega) ▸ (kp_i (i := 1) (by omega) (by omega)).trans x1R1w) ((show 11 + 3 * n = 9 + 3 * n + 2 by omega) ▸ (kp_i (i := 2) (by omega) (by omega)).trans y0R1w) (fun j hj hj' => by rw [kp_o hj (by omega), w370])
theorem kl_20 {T : Nat → Int} {L f t : Nat} {C R : MM} (h : LNP T L 2 f t C R) : OUT T L 2 20 f C R (sX7_readsLine_b18 79 1 ((2 : Nat) : Int) ((20 : Nat) : Int) C) (sX12_clueLine 359 444300622437 (f : Int) R) := by
  obtain ⟨hE, hT, hF, hB, hH, hD, hg⟩ := h
  have hfu : sX7_isFull 79 ((20 : Nat) : Int) C = some (if C 96 4 = 8 then 1 else 0) := fu_e hH (by omega)
  have hB0 : 0 ≤ R 370 0 ∧ R 370 0 ≤ 8 := ⟨hB.1, hB.2.1⟩
  have hd : C 79 5 = 0 → CC C 95 (R 370) ∧ CV (R 370) := fun z => hD z
  obtain ⟨C0, Q, R0, f0, t0, k0, a1, a2, a3, aE, aT, aF, aff, aW, aV, a23, a371, aD⟩ := headF (s := ((2 : Nat) : Int)) (k := 20) (c := 0) (most := 8) hE hT hF (by omega) hfu (i01 _ _) (fun z => by rw [i1f, show C 96 4 = R 370 0 from (hd z).1.1]) ⟨by omega, by omega⟩ ⟨by omega, by omega⟩ (by omega)
  generalize hrr : sX12_clueLine 359 444300622437 (f : Int) R = rr
  generalize hrc : sX7_readsLine_b18 79 1 ((2 : Nat) : Int) ((20 : Nat) : Int) C = rc
  rw [a1] at hrc
  have hrc := hrc.symm
  unfold sX12_clueLine sX12_clueLine_b0 sX12_clueLine_b49 sX12_clueLine_b70 sX12_clueLine_b84 sX12_clueLine_b111 sX12_clueLine_b127 at hrr
  simp only [if_neg (show ¬ wJ 444300622437 = 1935767923 by decide +kernel), if_neg (show ¬ wJ 444300622437 = 6383986 by decide +kernel), if_pos (show wJ 444300622437 = 444300622437 by decide +kernel), if_neg (show ¬ wJ 444300622437 = 126931137819237 by decide +kernel), if_neg (show ¬ wJ 444300622437 = 500136506472 by decide +kernel), if_neg (show ¬ wI 2 = (-1) by decide +kernel), if_pos (show 0 < wI 2 by decide +kernel)] at hrr
  rw [show sX12_full 359 0 8 (f : Int) R = some Q from a2, ob_s, a3, ob_s] at hrr
  rw [ob_s, g359_21] at hrr
  obtain ⟨R0w, eR0w⟩ : ∃ N : MM, N = mU R0 371 1 (-1) := ⟨_, rfl⟩
  rw [← eR0w] at hrr
  have wR0w : ∀ a, a ≠ 371 → R0w a = R0 a := fun a ha => by rw [eR0w]; exact mU_row _ _ ha
  have aEw := trE wR0w aE
  have aTw := trT wR0w aT
  have aFw := trF wR0w aF
  have gR0w : R0w 359 23 = R0 359 23 := by rw [wR0w 359 (by omega)]
  have WR0w := trW wR0w aV
  have x1R0w : R0w 371 1 = (-1) := by rw [eR0w, mU_eq]
  rcases num2 aEw aTw aFw (s := ((2 : Nat) : Int)) (k := 20) (i := 0) (r := 2) (lo := 0) (up := 7) (bu := (-1)) (by omega) (by decide) (by omega) (fun z => absurd rfl z) ⟨by omega, by omega⟩ ⟨by omega, by omega⟩ ⟨by omega, by omega⟩ (hok_p (by decide +kernel) (by decide +kernel) (by omega)) 99999 with ⟨x1, x2⟩ | ⟨C1, R1, f1, t1, k1, v0, x1, x2, p0_E, p0_T, p0_F, p0_o, p0_l, p0_A, p0_B, p0_c, p0_r, p0_0, p0_9, p0_g⟩
  · rw [show sX12_take 359 2 0 7 R0w = _ from take0 x2] at hrr
    exact outF (R' := mU R0w 359 17 (f0 : Int)) (hrc.trans x1) (hrr.symm.trans rfl) aTw.1.1 (mU_eq _ _ _ _) hH aW (XB_u (WB_X WR0w))
  rw [show sX12_take 359 2 0 7 R0w = _ from take1 x2, ob_s] at hrr
  dsimp only at hrr
  rw [i10] at hrr
  have hrc := hrc.trans x1
  have p0_W := WA_t aW (WA_n p0_A)
  have p0_V := WB_t WR0w (WB_n p0_B)
  have p0_x1 : R1 371 1 = (-1) := by rw [p0_B 371 1 (by omega) (by omega)]; exact x1R0w
  rw [ob_s] at hrr
  obtain ⟨R1w, eR1w⟩ : ∃ N : MM, N = mU R1 371 0 2 := ⟨_, rfl⟩
  rw [← eR1w] at hrr
  have wR1w : ∀ a, a ≠ 371 → R1w a = R1 a := fun a ha => by rw [eR1w]; exact mU_row _ _ ha
  have p0_Ew := trE wR1w p0_E
  have p0_Tw := trT wR1w p0_T
  have p0_Fw := trF wR1w p0_F
  have gR1w : R1w 359 23 = R1 359 23 := by rw [wR1w 359 (by omega)]
  have WR1w := trW wR1w p0_V
  have x1R1w : R1w 371 1 = (-1) := by rw [eR1w, mU_ne _ _ (by omega)]; exact p0_x1
  have x0R1w : R1w 371 0 = 2 := by rw [eR1w, mU_eq]
  have y0R1w : R1w 371 2 = v0 := by rw [eR1w, mU_ne _ _ (by omega)]; exact p0_r
  have hrc := hrc.trans (numE (k := 20) (by omega) 99998)
  have h5 : C1 79 5 = 0 → (C 79 5 = 0 ∧ R 370 0 ≠ 8) ∧ (0 ≤ v0 ∧ v0 ≤ 7 ∧ v0 ≠ -1) := by
    intro z
    obtain ⟨p0_q, p0_z⟩ := (gz p0_g).1 z
    exact ⟨aD p0_z, p0_q⟩
  have w370 : R1w 370 = R 370 := WR1w.1 370 (by omega) (by omega)
  have w22 : R1w 359 22 = R 359 22 := WR1w.2
  obtain ⟨n, hn⟩ := Int.eq_ofNat_of_zero_le hB0.1
  by_cases hmost : R 370 0 = 8
  · rw [show sX12_keep 359 0 9 3 8 R1w = _ from keepN (c := 0) (by omega) (by rw [w370]; exact hmost), ob_s] at hrr
    exact outG hrc hrr.symm p0_Ew p0_Tw p0_Fw (by omega) (fun a _ _ _ => rfl) (fun j _ => rfl) (RB_c hB w370 w22) p0_W (WB_X WR1w) hH (fun z => absurd hmost (h5 z).1.2)
  · have ek := keepB (R := R1w) (c := 0) (n := n) (p := 9 + 3 * n) (w := 3) (fr := 9) (most := 8) (by omega) (by rw [w370]; exact hn) (by omega) (by omega) (by omega) (by omega)
    rw [show sX12_keep 359 0 9 3 8 R1w = _ from ek, ob_s] at hrr
    have hrow : ∀ a, a ≠ 370 → mU (kpR R1w (9 + 3 * n) 3) 370 0 ((n : Int) + 1) a = R1w a := fun a ha => kp_r ha
    refine outG hrc hrr.symm p0_Ew p0_Tw p0_Fw (by omega) (fun a _ h _ => hrow a h) (fun j _ => by rw [hrow 359 (by omega)]) ?_ p0_W (WB_X WR1w) hH (fun z C'' hrw h12 h114 => ?_)
    · refine ⟨by rw [kp_c]; omega, ?_, fun z => absurd z (by omega), ?_, ?_⟩
      · rw [kp_c]; show (n : Int) + 1 ≤ 8; omega
      · intro z; exact absurd z (by omega)
      · rw [hrow 359 (by omega), w22]; exact hB.2.2.2.2
    · obtain ⟨⟨z1, z2⟩, y0⟩ := h5 z
      have hC0 : C'' 114 0 = v0 := by rw [h114]; exact p0_c
      have hd0 := hd z1
      have hdc : CC C'' 95 (R 370) := CC_c (fun j hj => hrw _ (by omega) (by omega)) hd0.1
      have hcn : C'' 96 4 = (n : Int) := (hdc.1).trans hn
      have hl := addL (C := C'') (q := 96) (m := 8) (n := n) (x := (((20 : Nat) : Int) - 18)) (y := (-1)) (z := v0) LG_96 (by rw [hrw _ (by omega) (by omega)]; exact hH.1.2.1) hcn (by omega) (by omega)
      refine ⟨aL C'' 96 n (((20 : Nat) : Int) - 18) (-1) v0, ?_, ?_, HM_96 (HM_c hH (C' := C'') (fun a ha hb => hrw a (by omega) (by omega))) (by omega), fun a ha => aL_f (by omega), fun j hj => by rw [aL_f (by omega)]⟩
      · unfold sX7_keep sX7_keep_b0
        rw [show wI ((20 : Nat) : Int) = 20 by decide +kernel, if_pos (by omega), if_pos (by omega), if_neg (by omega), if_neg (by omega), g79_2, g95_0, g79_7, hC0, hl, ob_s]
      · show CC _ 95 _ ∧ CV _
        exact CC_a ⟨hdc, hd0.2⟩ hn (by omega) ⟨by omega, by omega, by omega, by omega, by omega, by omega, by omega⟩ kp_c (((kp_i (i := 0) (by omega) (by omega)).trans x0R1w).trans (by omega)) ((show 10 + 3 * n = 9 + 3 * n + 1 by omega) ▸ (kp_i (i := 1) (by omega) (by omega)).trans x1R1w) ((show 11 + 3 * n = 9 + 3 * n + 2 by omega) ▸ (kp_i (i := 2) (by omega) (by omega)).trans y0R1w) (fun j hj hj' => by rw [kp_o hj (by omega), w370])
theorem kl_21 {T : Nat → Int} {L f t : Nat} {C R : MM} (h : LNP T L 2 f t C R) : OUT T L 2 21 f C R (sX7_readsLine_b18 79 1 ((2 : Nat) : Int) ((21 : Nat) : Int) C) (sX12_clueLine 359 126931137819237 (f : Int) R) := by
  obtain ⟨hE, hT, hF, hB, hH, hD, hg⟩ := h
  have hfu : sX7_isFull 79 ((21 : Nat) : Int) C = some (if C 96 4 = 8 then 1 else 0) := fu_e hH (by omega)
  have hB0 : 0 ≤ R 370 0 ∧ R 370 0 ≤ 8 := ⟨hB.1, hB.2.1⟩
  have hd : C 79 5 = 0 → CC C 95 (R 370) ∧ CV (R 370) := fun z => hD z
  obtain ⟨C0, Q, R0, f0, t0, k0, a1, a2, a3, aE, aT, aF, aff, aW, aV, a23, a371, aD⟩ := headF (s := ((2 : Nat) : Int)) (k := 21) (c := 0) (most := 8) hE hT hF (by omega) hfu (i01 _ _) (fun z => by rw [i1f, show C 96 4 = R 370 0 from (hd z).1.1]) ⟨by omega, by omega⟩ ⟨by omega, by omega⟩ (by omega)
  generalize hrr : sX12_clueLine 359 126931137819237 (f : Int) R = rr
  generalize hrc : sX7_readsLine_b18 79 1 ((2 : Nat) : Int) ((21 : Nat) : Int) C = rc
  rw [a1] at hrc
  have hrc := hrc.symm
  unfold sX12_clueLine sX12_clueLine_b0 sX12_clueLine_b49 sX12_clueLine_b70 sX12_clueLine_b84 sX12_clueLine_b111 sX12_clueLine_b127 at hrr
  simp only [if_neg (show ¬ wJ 126931137819237 = 1935767923 by decide +kernel), if_neg (show ¬ wJ 126931137819237 = 6383986 by decide +kernel), if_neg (show ¬ wJ 126931137819237 = 444300622437 by decide +kernel), if_pos (show wJ 126931137819237 = 126931137819237 by decide +kernel), if_neg (show ¬ wJ 126931137819237 = 500136506472 by decide +kernel), if_neg (show ¬ wI 3 = (-1) by decide +kernel), if_pos (show 0 < wI 3 by decide +kernel)] at hrr
  rw [show sX12_full 359 0 8 (f : Int) R = some Q from a2, ob_s, a3, ob_s] at hrr
  rw [ob_s, g359_21] at hrr
  obtain ⟨R0w, eR0w⟩ : ∃ N : MM, N = mU R0 371 1 (-1) := ⟨_, rfl⟩
  rw [← eR0w] at hrr
  have wR0w : ∀ a, a ≠ 371 → R0w a = R0 a := fun a ha => by rw [eR0w]; exact mU_row _ _ ha
  have aEw := trE wR0w aE
  have aTw := trT wR0w aT
  have aFw := trF wR0w aF
  have gR0w : R0w 359 23 = R0 359 23 := by rw [wR0w 359 (by omega)]
  have WR0w := trW wR0w aV
  have x1R0w : R0w 371 1 = (-1) := by rw [eR0w, mU_eq]
  rcases num2 aEw aTw aFw (s := ((2 : Nat) : Int)) (k := 21) (i := 0) (r := 2) (lo := 0) (up := 7) (bu := (-1)) (by omega) (by decide) (by omega) (fun z => absurd rfl z) ⟨by omega, by omega⟩ ⟨by omega, by omega⟩ ⟨by omega, by omega⟩ (hok_p (by decide +kernel) (by decide +kernel) (by omega)) 99999 with ⟨x1, x2⟩ | ⟨C1, R1, f1, t1, k1, v0, x1, x2, p0_E, p0_T, p0_F, p0_o, p0_l, p0_A, p0_B, p0_c, p0_r, p0_0, p0_9, p0_g⟩
  · rw [show sX12_take 359 2 0 7 R0w = _ from take0 x2] at hrr
    exact outF (R' := mU R0w 359 17 (f0 : Int)) (hrc.trans x1) (hrr.symm.trans rfl) aTw.1.1 (mU_eq _ _ _ _) hH aW (XB_u (WB_X WR0w))
  rw [show sX12_take 359 2 0 7 R0w = _ from take1 x2, ob_s] at hrr
  dsimp only at hrr
  rw [i10] at hrr
  have hrc := hrc.trans x1
  have p0_W := WA_t aW (WA_n p0_A)
  have p0_V := WB_t WR0w (WB_n p0_B)
  have p0_x1 : R1 371 1 = (-1) := by rw [p0_B 371 1 (by omega) (by omega)]; exact x1R0w
  rw [ob_s] at hrr
  obtain ⟨R1w, eR1w⟩ : ∃ N : MM, N = mU R1 371 0 3 := ⟨_, rfl⟩
  rw [← eR1w] at hrr
  have wR1w : ∀ a, a ≠ 371 → R1w a = R1 a := fun a ha => by rw [eR1w]; exact mU_row _ _ ha
  have p0_Ew := trE wR1w p0_E
  have p0_Tw := trT wR1w p0_T
  have p0_Fw := trF wR1w p0_F
  have gR1w : R1w 359 23 = R1 359 23 := by rw [wR1w 359 (by omega)]
  have WR1w := trW wR1w p0_V
  have x1R1w : R1w 371 1 = (-1) := by rw [eR1w, mU_ne _ _ (by omega)]; exact p0_x1
  have x0R1w : R1w 371 0 = 3 := by rw [eR1w, mU_eq]
  have y0R1w : R1w 371 2 = v0 := by rw [eR1w, mU_ne _ _ (by omega)]; exact p0_r
  have hrc := hrc.trans (numE (k := 21) (by omega) 99998)
  have h5 : C1 79 5 = 0 → (C 79 5 = 0 ∧ R 370 0 ≠ 8) ∧ (0 ≤ v0 ∧ v0 ≤ 7 ∧ v0 ≠ -1) := by
    intro z
    obtain ⟨p0_q, p0_z⟩ := (gz p0_g).1 z
    exact ⟨aD p0_z, p0_q⟩
  have w370 : R1w 370 = R 370 := WR1w.1 370 (by omega) (by omega)
  have w22 : R1w 359 22 = R 359 22 := WR1w.2
  obtain ⟨n, hn⟩ := Int.eq_ofNat_of_zero_le hB0.1
  by_cases hmost : R 370 0 = 8
  · rw [show sX12_keep 359 0 9 3 8 R1w = _ from keepN (c := 0) (by omega) (by rw [w370]; exact hmost), ob_s] at hrr
    exact outG hrc hrr.symm p0_Ew p0_Tw p0_Fw (by omega) (fun a _ _ _ => rfl) (fun j _ => rfl) (RB_c hB w370 w22) p0_W (WB_X WR1w) hH (fun z => absurd hmost (h5 z).1.2)
  · have ek := keepB (R := R1w) (c := 0) (n := n) (p := 9 + 3 * n) (w := 3) (fr := 9) (most := 8) (by omega) (by rw [w370]; exact hn) (by omega) (by omega) (by omega) (by omega)
    rw [show sX12_keep 359 0 9 3 8 R1w = _ from ek, ob_s] at hrr
    have hrow : ∀ a, a ≠ 370 → mU (kpR R1w (9 + 3 * n) 3) 370 0 ((n : Int) + 1) a = R1w a := fun a ha => kp_r ha
    refine outG hrc hrr.symm p0_Ew p0_Tw p0_Fw (by omega) (fun a _ h _ => hrow a h) (fun j _ => by rw [hrow 359 (by omega)]) ?_ p0_W (WB_X WR1w) hH (fun z C'' hrw h12 h114 => ?_)
    · refine ⟨by rw [kp_c]; omega, ?_, fun z => absurd z (by omega), ?_, ?_⟩
      · rw [kp_c]; show (n : Int) + 1 ≤ 8; omega
      · intro z; exact absurd z (by omega)
      · rw [hrow 359 (by omega), w22]; exact hB.2.2.2.2
    · obtain ⟨⟨z1, z2⟩, y0⟩ := h5 z
      have hC0 : C'' 114 0 = v0 := by rw [h114]; exact p0_c
      have hd0 := hd z1
      have hdc : CC C'' 95 (R 370) := CC_c (fun j hj => hrw _ (by omega) (by omega)) hd0.1
      have hcn : C'' 96 4 = (n : Int) := (hdc.1).trans hn
      have hl := addL (C := C'') (q := 96) (m := 8) (n := n) (x := (((21 : Nat) : Int) - 18)) (y := (-1)) (z := v0) LG_96 (by rw [hrw _ (by omega) (by omega)]; exact hH.1.2.1) hcn (by omega) (by omega)
      refine ⟨aL C'' 96 n (((21 : Nat) : Int) - 18) (-1) v0, ?_, ?_, HM_96 (HM_c hH (C' := C'') (fun a ha hb => hrw a (by omega) (by omega))) (by omega), fun a ha => aL_f (by omega), fun j hj => by rw [aL_f (by omega)]⟩
      · unfold sX7_keep sX7_keep_b0
        rw [show wI ((21 : Nat) : Int) = 21 by decide +kernel, if_pos (by omega), if_pos (by omega), if_neg (by omega), if_neg (by omega), g79_2, g95_0, g79_7, hC0, hl, ob_s]
      · show CC _ 95 _ ∧ CV _
        exact CC_a ⟨hdc, hd0.2⟩ hn (by omega) ⟨by omega, by omega, by omega, by omega, by omega, by omega, by omega⟩ kp_c (((kp_i (i := 0) (by omega) (by omega)).trans x0R1w).trans (by omega)) ((show 10 + 3 * n = 9 + 3 * n + 1 by omega) ▸ (kp_i (i := 1) (by omega) (by omega)).trans x1R1w) ((show 11 + 3 * n = 9 + 3 * n + 2 by omega) ▸ (kp_i (i := 2) (by omega) (by omega)).trans y0R1w) (fun j hj hj' => by rw [kp_o hj (by omega), w370])
theorem kl_22 {T : Nat → Int} {L f t : Nat} {C R : MM} (h : LNP T L 2 f t C R) : OUT T L 2 22 f C R (sX7_readsLine_b18 79 1 ((2 : Nat) : Int) ((22 : Nat) : Int) C) (sX12_clueLine 359 500136506472 (f : Int) R) := by
  obtain ⟨hE, hT, hF, hB, hH, hD, hg⟩ := h
  have hfu : sX7_isFull 79 ((22 : Nat) : Int) C = some 0 := fu_e hH (by omega)
  obtain ⟨C0, R0, f0, t0, k0, a1, a3, aE, aT, aF, aff, aW, aV, a23, a371, aD⟩ := head0 (s := ((2 : Nat) : Int)) (k := 22) hE hT hF (by omega) hfu
  generalize hrr : sX12_clueLine 359 500136506472 (f : Int) R = rr
  generalize hrc : sX7_readsLine_b18 79 1 ((2 : Nat) : Int) ((22 : Nat) : Int) C = rc
  rw [a1] at hrc
  have hrc := hrc.symm
  unfold sX12_clueLine sX12_clueLine_b0 sX12_clueLine_b49 sX12_clueLine_b70 sX12_clueLine_b84 sX12_clueLine_b111 sX12_clueLine_b127 at hrr
  simp only [if_neg (show ¬ wJ 500136506472 = 1935767923 by decide +kernel), if_neg (show ¬ wJ 500136506472 = 6383986 by decide +kernel), if_neg (show ¬ wJ 500136506472 = 444300622437 by decide +kernel), if_neg (show ¬ wJ 500136506472 = 126931137819237 by decide +kernel), if_pos (show wJ 500136506472 = 500136506472 by decide +kernel), if_pos (show wI (-1) = (-1) by decide +kernel), if_neg (show ¬ 0 < wI (-1) by decide +kernel)] at hrr
  rw [a3, ob_s] at hrr
  rw [ob_s, g359_21] at hrr
  obtain ⟨R0w, eR0w⟩ : ∃ N : MM, N = mU R0 371 1 (-1) := ⟨_, rfl⟩
  rw [← eR0w] at hrr
  have wR0w : ∀ a, a ≠ 371 → R0w a = R0 a := fun a ha => by rw [eR0w]; exact mU_row _ _ ha
  have aEw := trE wR0w aE
  have aTw := trT wR0w aT
  have aFw := trF wR0w aF
  have gR0w : R0w 359 23 = R0 359 23 := by rw [wR0w 359 (by omega)]
  have WR0w := trW wR0w aV
  have x1R0w : R0w 371 1 = (-1) := by rw [eR0w, mU_eq]
  rcases num2 aEw aTw aFw (s := ((2 : Nat) : Int)) (k := 22) (i := 0) (r := 1) (lo := 0) (up := 7) (bu := (-1)) (by omega) (by decide) (by omega) (fun z => absurd rfl z) ⟨by omega, by omega⟩ ⟨by omega, by omega⟩ ⟨by omega, by omega⟩ (hok_p (by decide +kernel) (by decide +kernel) (by omega)) 99999 with ⟨x1, x2⟩ | ⟨C1, R1, f1, t1, k1, v0, x1, x2, p0_E, p0_T, p0_F, p0_o, p0_l, p0_A, p0_B, p0_c, p0_r, p0_0, p0_9, p0_g⟩
  · rw [show sX12_take 359 1 0 7 R0w = _ from take0 x2] at hrr
    exact outF (R' := mU R0w 359 17 (f0 : Int)) (hrc.trans x1) (hrr.symm.trans rfl) aTw.1.1 (mU_eq _ _ _ _) hH aW (XB_u (WB_X WR0w))
  rw [show sX12_take 359 1 0 7 R0w = _ from take1 x2, ob_s] at hrr
  dsimp only at hrr
  rw [i10] at hrr
  have hrc := hrc.trans x1
  have p0_W := WA_t aW (WA_n p0_A)
  have p0_V := WB_t WR0w (WB_n p0_B)
  rcases num2 p0_E p0_T p0_F (s := ((2 : Nat) : Int)) (k := 22) (i := 1) (r := 2) (lo := 0) (up := 10) (bu := (-1)) (by omega) (by decide) (by omega) (fun z => by rw [p0_c]; exact ⟨by omega, by omega⟩) ⟨by omega, by omega⟩ ⟨by omega, by omega⟩ ⟨by omega, by omega⟩ (hok_p (by decide +kernel) (by decide +kernel) (by omega)) 99998 with ⟨x1, x2⟩ | ⟨C2, R2, f2, t2, k2, v1, x1, x2, p1_E, p1_T, p1_F, p1_o, p1_l, p1_A, p1_B, p1_c, p1_r, p1_0, p1_9, p1_g⟩
  · rw [show sX12_take 359 2 0 10 R1 = _ from take0 x2] at hrr
    exact outF (R' := mU R1 359 17 (f1 : Int)) (hrc.trans x1) (hrr.symm.trans rfl) p0_T.1.1 (mU_eq _ _ _ _) hH p0_W (XB_u (WB_X p0_V))
  rw [show sX12_take 359 2 0 10 R1 = _ from take1 x2, ob_s] at hrr
  dsimp only at hrr
  rw [i10] at hrr
  have hrc := hrc.trans x1
  have p1_W := WA_t p0_W (WA_n p1_A)
  have p1_V := WB_t p0_V (WB_n p1_B)
  have p1_c0 : C2 114 0 = v0 := by rw [p1_A 114 0 (by omega) (by omega)]; exact p0_c
  have p1_r0 : R2 371 1 = v0 := by rw [p1_B 371 1 (by omega) (by omega)]; exact p0_r
  rw [ob_s] at hrr
  obtain ⟨R2w, eR2w⟩ : ∃ N : MM, N = mU R2 371 0 (-1) := ⟨_, rfl⟩
  rw [← eR2w] at hrr
  have wR2w : ∀ a, a ≠ 371 → R2w a = R2 a := fun a ha => by rw [eR2w]; exact mU_row _ _ ha
  have p1_Ew := trE wR2w p1_E
  have p1_Tw := trT wR2w p1_T
  have p1_Fw := trF wR2w p1_F
  have gR2w : R2w 359 23 = R2 359 23 := by rw [wR2w 359 (by omega)]
  have WR2w := trW wR2w p1_V
  have x0R2w : R2w 371 0 = (-1) := by rw [eR2w, mU_eq]
  have y0R2w : R2w 371 1 = v0 := by rw [eR2w, mU_ne _ _ (by omega)]; exact p1_r0
  have y1R2w : R2w 371 2 = v1 := by rw [eR2w, mU_ne _ _ (by omega)]; exact p1_r
  have hrc := hrc.trans (numE (k := 22) (by omega) 99997)
  have h5 : C2 79 5 = 0 → (C 79 5 = 0) ∧ (0 ≤ v0 ∧ v0 ≤ 7 ∧ v0 ≠ -1) ∧ (0 ≤ v1 ∧ v1 ≤ 10 ∧ v1 ≠ -1) := by
    intro z
    obtain ⟨p1_q, p1_z⟩ := (gz p1_g).1 z
    obtain ⟨p0_q, p0_z⟩ := (gz p0_g).1 p1_z
    exact ⟨aD p0_z, p0_q, p1_q⟩
  have w370 : R2w 370 = R 370 := WR2w.1 370 (by omega) (by omega)
  have w22 : R2w 359 22 = R 359 22 := WR2w.2
  have hd : C 79 5 = 0 → CC C 95 (R 370) ∧ CV (R 370) := fun z => hD z
  have hgood : R2w 359 23 ≠ 0 → (0 ≤ v0 ∧ v0 ≤ 7 ∧ v0 ≠ -1) ∧ (0 ≤ v1 ∧ v1 ≤ 10 ∧ v1 ≠ -1) := by
    intro z
    rw [gR2w] at z
    obtain ⟨p1_q, p1_e⟩ := (gz p1_g).2 z
    rw [p1_e] at z
    obtain ⟨p0_q, p0_e⟩ := (gz p0_g).2 z
    rw [p0_e] at z
    rw [gR0w] at z
    exact ⟨p0_q, p1_q⟩
  have hone : C2 79 5 = 0 → R2w 359 23 = 1 := by
    intro z
    have p1_e := gz3 p1_g z
    have p1_z := ((gz p1_g).1 z).2
    have p0_e := gz3 p0_g p1_z
    have p0_z := ((gz p0_g).1 p1_z).2
    rw [gR2w, p1_e, p0_e, gR0w, a23]; exact hg
  by_cases hz : wI (R2w 359 23) = 0
  · rw [if_pos hz] at hrr
    exact outG (R' := R2w) hrc (hrr.symm.trans rfl) p1_Ew p1_Tw p1_Fw (by omega) (fun a _ _ _ => rfl) (fun j _ => rfl) (RB_c hB w370 w22) p1_W (WB_X WR2w) hH (fun z => absurd (by rw [hone z] at hz; exact hz) (by decide +kernel))
  · obtain ⟨⟨u0, u0', u0''⟩, ⟨u1, u1', u1''⟩⟩ := hgood (fun z => hz (by rw [z]; exact wI_0))
    obtain ⟨c, hc⟩ := Int.eq_ofNat_of_zero_le u0
    have hcc : ((1 + c : Nat) : Int) = (1 + v0) := by omega
    have hw : wI (1 + R2w 371 1) = ((1 + c : Nat) : Int) := by rw [y0R2w, wI_of (by omega) (by omega)]; omega
    have hin : (0 : Int) ≤ ((1 + c : Nat) : Int) ∧ ((1 + c : Nat) : Int) < 132 := ⟨by omega, by omega⟩
    rw [if_neg hz] at hrr
    simp only [g359_21, g359_20] at hrr
    rw [hw, if_pos hin, tN, y1R2w, ob_s] at hrr
    refine outG (R' := mU R2w 370 (1 + c) v1) hrc (hrr.symm.trans rfl) p1_Ew p1_Tw p1_Fw (by omega) (fun a _ h _ => mU_row _ _ h) (fun j _ => mU_ne _ _ (by omega)) ?_ p1_W (WB_X WR2w) hH (fun z C'' hrw h12 h114 => ?_)
    · unfold RB; rw [mU_ne (j := 0) _ _ (by omega), mU_ne (b := 359) _ _ (by omega), w370, w22]
      exact ⟨hB.1, hB.2.1, fun z => absurd z (by omega), fun z => absurd z (by omega), hB.2.2.2.2⟩
    · have z1 := (h5 z).1
      have hC0 : C'' 114 0 = v0 := by rw [h114]; exact p1_c0
      have hC1 : C'' 114 1 = v1 := by rw [h114]; exact p1_c
      refine ⟨mU C'' 100 v0.toNat v1, ?_, ?_, HM_u (HM_c hH (C' := C'') (fun a ha hb => hrw a (by omega) (by omega))) (by omega), fun a ha => mU_row _ _ (by omega), fun j hj => by rw [mU_row _ _ (by omega)]⟩
      · unfold sX7_keep sX7_keep_b0
        rw [show wI ((22 : Nat) : Int) = 22 by decide +kernel, if_pos (by omega), if_pos (by omega), if_neg (by omega), if_pos (by omega), if_pos rfl, g79_7, g79_2, g95_1, hC0, hC1, wI_of (x := v0) (by omega) (by omega), if_neg (by omega), if_neg (by omega), if_pos (by omega), ob_s]
      · show CC _ 95 _ ∧ CV _
        rw [hc, tN]
        exact CC_t ⟨CC_c (fun j hj => hrw _ (by omega) (by omega)) (hd z1).1, (hd z1).2⟩ (by omega) ⟨by omega, by omega⟩ (mU_eq _ _ _ _) (fun j hj => by rw [mU_ne _ _ (by omega), w370])
