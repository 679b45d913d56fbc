theorem kl_24 {T : Nat → Int} {L f t : Nat} {C R : MM} (h : LNP T L 4 f t C R) : OUT T L 4 24 f C R (sX7_readsLine_b18 79 1 ((4 : Nat) : Int) ((24 : Nat) : Int) C) (sX12_recordLine 359 1953658213 (f : Int) R) := by
  obtain ⟨hE, hT, hF, hB, hH, hD, hg⟩ := h
  have hfu : sX7_isFull 79 ((24 : Nat) : Int) C = some (if C 106 4 = 40 then 1 else 0) := fu_e hH (by omega)
  have hB0 : 0 ≤ R 370 0 ∧ R 370 0 ≤ 40 := ⟨hB.1, hB.2.1⟩
  have hd : C 79 5 = 0 → RC C 105 (R 370) ∧ RV (R 370) := fun z => hD z
  obtain ⟨C0, Q, R0, f0, t0, k0, a1, a2, a3, aE, aT, aF, aff, aW, aV, a23, a371, aD⟩ := headF (s := ((4 : Nat) : Int)) (k := 24) (c := 0) (most := 40) hE hT hF (by omega) hfu (i01 _ _) (fun z => by rw [i1f, show C 106 4 = R 370 0 from (hd z).1.1]) ⟨by omega, by omega⟩ ⟨by omega, by omega⟩ (by omega)
  generalize hrr : sX12_recordLine 359 1953658213 (f : Int) R = rr
  generalize hrc : sX7_readsLine_b18 79 1 ((4 : Nat) : Int) ((24 : Nat) : Int) C = rc
  rw [a1] at hrc
  have hrc := hrc.symm
  unfold sX12_recordLine sX12_recordLine_b0 sX12_recordLine_b16 sX12_recordLine_b21 sX12_recordLine_b49 sX12_recordLine_b60 sX12_recordLine_b72 sX12_recordLine_b98 sX12_recordLine_b117 sX12_recordLine_b135 at hrr
  simp only [if_pos (show wJ 1953658213 = 1953658213 by decide +kernel), if_neg (show ¬ wJ 1953658213 = 439721161573 by decide +kernel), if_neg (show ¬ wJ 1953658213 = 6842740 by decide +kernel), if_neg (show ¬ wJ 1953658213 = 1835627379 by decide +kernel), if_pos (show wI 0 = 0 by decide +kernel), if_neg (show ¬ wI 1 = 0 by decide +kernel), if_pos (show 0 ≤ wI 0 ∧ wI 0 < 4 by decide +kernel), if_pos (show 0 ≤ wI 1 ∧ wI 1 < 4 by decide +kernel)] at hrr
  simp only [show (wI 0).toNat = 0 from rfl, show (wI 1).toNat = 1 from rfl] at hrr
  rw [show sX12_full 359 0 40 (f : Int) R = some Q from a2, ob_s, a3, ob_s] at hrr
  rw [ob_s, g359_21] at hrr
  obtain ⟨R0w, eR0w⟩ : ∃ N : MM, N = mU R0 371 0 0 := ⟨_, rfl⟩
  rw [← eR0w] at hrr
  have wR0w : ∀ a, a ≠ 371 → R0w a = R0 a := fun a ha => by rw [eR0w]; exact mU_row _ _ ha
  have aEw := trE wR0w aE
  have aTw := trT wR0w aT
  have aFw := trF wR0w aF
  have gR0w : R0w 359 23 = R0 359 23 := by rw [wR0w 359 (by omega)]
  have WR0w := trW wR0w aV
  have x0R0w : R0w 371 0 = 0 := by rw [eR0w, mU_eq]
  rcases num2 aEw aTw aFw (s := ((4 : Nat) : Int)) (k := 24) (i := 0) (r := 0) (lo := 0) (up := 7) (bu := (-1)) (by omega) (by decide) (by omega) (fun z => absurd rfl z) ⟨by omega, by omega⟩ ⟨by omega, by omega⟩ ⟨by omega, by omega⟩ (hok_p (by decide +kernel) (by decide +kernel) (by omega)) 99999 with ⟨x1, x2⟩ | ⟨C1, R1, f1, t1, k1, v0, x1, x2, p0_E, p0_T, p0_F, p0_o, p0_l, p0_A, p0_B, p0_c, p0_r, p0_0, p0_9, p0_g⟩
  · rw [show sX12_take 359 0 0 7 R0w = _ from take0 x2] at hrr
    exact outF (R' := mU R0w 359 17 (f0 : Int)) (hrc.trans x1) (hrr.symm.trans rfl) aTw.1.1 (mU_eq _ _ _ _) hH aW (XB_u (WB_X WR0w))
  rw [show sX12_take 359 0 0 7 R0w = _ from take1 x2, ob_s] at hrr
  dsimp only at hrr
  rw [i10] at hrr
  have hrc := hrc.trans x1
  have p0_W := WA_t aW (WA_n p0_A)
  have p0_V := WB_t WR0w (WB_n p0_B)
  rw [ob_s] at hrr
  obtain ⟨R1w, eR1w⟩ : ∃ N : MM, N = mU R1 371 1 1 := ⟨_, rfl⟩
  rw [← eR1w] at hrr
  have wR1w : ∀ a, a ≠ 371 → R1w a = R1 a := fun a ha => by rw [eR1w]; exact mU_row _ _ ha
  have p0_Ew := trE wR1w p0_E
  have p0_Tw := trT wR1w p0_T
  have p0_Fw := trF wR1w p0_F
  have gR1w : R1w 359 23 = R1 359 23 := by rw [wR1w 359 (by omega)]
  have WR1w := trW wR1w p0_V
  have x1R1w : R1w 371 1 = 1 := by rw [eR1w, mU_eq]
  have y0R1w : R1w 371 0 = v0 := by rw [eR1w, mU_ne _ _ (by omega)]; exact p0_r
  have hrc := hrc.trans (numE (k := 24) (by omega) 99998)
  have h5 : C1 79 5 = 0 → (C 79 5 = 0 ∧ R 370 0 ≠ 40) ∧ (0 ≤ v0 ∧ v0 ≤ 7 ∧ v0 ≠ -1) := by
    intro z
    obtain ⟨p0_q, p0_z⟩ := (gz p0_g).1 z
    exact ⟨aD p0_z, p0_q⟩
  have w370 : R1w 370 = R 370 := WR1w.1 370 (by omega) (by omega)
  have w22 : R1w 359 22 = R 359 22 := WR1w.2
  obtain ⟨n, hn⟩ := Int.eq_ofNat_of_zero_le hB0.1
  by_cases hmost : R 370 0 = 40
  · rw [show sX12_keep 359 0 2 2 40 R1w = _ from keepN (c := 0) (by omega) (by rw [w370]; exact hmost), ob_s] at hrr
    exact outG hrc hrr.symm p0_Ew p0_Tw p0_Fw (by omega) (fun a _ _ _ => rfl) (fun j _ => rfl) (RB_c hB w370 w22) p0_W (WB_X WR1w) hH (fun z => absurd hmost (h5 z).1.2)
  · have ek := keepB (R := R1w) (c := 0) (n := n) (p := 2 + 2 * n) (w := 2) (fr := 2) (most := 40) (by omega) (by rw [w370]; exact hn) (by omega) (by omega) (by omega) (by omega)
    rw [show sX12_keep 359 0 2 2 40 R1w = _ from ek, ob_s] at hrr
    have hrow : ∀ a, a ≠ 370 → mU (kpR R1w (2 + 2 * n) 2) 370 0 ((n : Int) + 1) a = R1w a := fun a ha => kp_r ha
    refine outG hrc hrr.symm p0_Ew p0_Tw p0_Fw (by omega) (fun a _ h _ => hrow a h) (fun j _ => by rw [hrow 359 (by omega)]) ?_ p0_W (WB_X WR1w) hH (fun z C'' hrw h12 h114 => ?_)
    · refine ⟨by rw [kp_c]; omega, ?_, fun z => absurd z (by omega), ?_, ?_⟩
      · rw [kp_c]; show (n : Int) + 1 ≤ 40; omega
      · intro z; rw [kp_o (by omega) (by omega), w370]; exact hB.2.2.2.1 z
      · rw [hrow 359 (by omega), w22]; exact hB.2.2.2.2
    · obtain ⟨⟨z1, z2⟩, y0⟩ := h5 z
      have hC0 : C'' 114 0 = v0 := by rw [h114]; exact p0_c
      have hd0 := hd z1
      have hdc : RC C'' 105 (R 370) := RC_c (fun j hj => hrw _ (by omega) (by omega)) hd0.1
      have hcn : C'' 106 4 = (n : Int) := (hdc.1).trans hn
      have hl := addL (C := C'') (q := 106) (m := 40) (n := n) (x := 0) (y := v0) (z := 1) LG_106 (by rw [hrw _ (by omega) (by omega)]; exact hH.1.2.2.2.1) hcn (by omega) (by omega)
      refine ⟨aL C'' 106 n 0 v0 1, ?_, ?_, HM_106 (HM_c hH (C' := C'') (fun a ha hb => hrw a (by omega) (by omega))) (by omega), fun a ha => aL_f (by omega), fun j hj => by rw [aL_f (by omega)]⟩
      · unfold sX7_keep sX7_keep_b0
        unfold sX7_keep_b221 sX7_keep_b246
        rw [show wI ((24 : Nat) : Int) = 24 by decide +kernel, if_pos (by omega), if_pos (by omega), if_neg (by omega), if_pos (by omega), if_neg (by omega), if_neg (by omega)]
        rw [if_pos rfl, if_pos rfl, g79_4, g105_0, g79_7, hC0, hl, ob_s]
      · show RC _ 105 _ ∧ RV _
        exact RC_a ⟨hdc, hd0.2⟩ hn (by omega) ⟨by omega, by omega, by omega, by omega⟩ kp_c ((kp_i (i := 0) (by omega) (by omega)).trans y0R1w) ((show 3 + 2 * n = 2 + 2 * n + 1 by omega) ▸ (kp_i (i := 1) (by omega) (by omega)).trans x1R1w) (fun j hj hj' hj'' => by rw [kp_o hj (by omega), w370])
theorem kl_25 {T : Nat → Int} {L f t : Nat} {C R : MM} (h : LNP T L 4 f t C R) : OUT T L 4 25 f C R (sX7_readsLine_b18 79 1 ((4 : Nat) : Int) ((25 : Nat) : Int) C) (sX12_recordLine 359 439721161573 (f : Int) R) := by
  obtain ⟨hE, hT, hF, hB, hH, hD, hg⟩ := h
  have hfu : sX7_isFull 79 ((25 : Nat) : Int) C = some (if C 106 4 = 40 then 1 else 0) := fu_e hH (by omega)
  have hB0 : 0 ≤ R 370 0 ∧ R 370 0 ≤ 40 := ⟨hB.1, hB.2.1⟩
  have hd : C 79 5 = 0 → RC C 105 (R 370) ∧ RV (R 370) := fun z => hD z
  obtain ⟨C0, Q, R0, f0, t0, k0, a1, a2, a3, aE, aT, aF, aff, aW, aV, a23, a371, aD⟩ := headF (s := ((4 : Nat) : Int)) (k := 25) (c := 0) (most := 40) hE hT hF (by omega) hfu (i01 _ _) (fun z => by rw [i1f, show C 106 4 = R 370 0 from (hd z).1.1]) ⟨by omega, by omega⟩ ⟨by omega, by omega⟩ (by omega)
  generalize hrr : sX12_recordLine 359 439721161573 (f : Int) R = rr
  generalize hrc : sX7_readsLine_b18 79 1 ((4 : Nat) : Int) ((25 : Nat) : Int) C = rc
  rw [a1] at hrc
  have hrc := hrc.symm
  unfold sX12_recordLine sX12_recordLine_b0 sX12_recordLine_b16 sX12_recordLine_b21 sX12_recordLine_b49 sX12_recordLine_b60 sX12_recordLine_b72 sX12_recordLine_b98 sX12_recordLine_b117 sX12_recordLine_b135 at hrr
  simp only [if_neg (show ¬ wJ 439721161573 = 1953658213 by decide +kernel), if_pos (show wJ 439721161573 = 439721161573 by decide +kernel), if_neg (show ¬ wJ 439721161573 = 6842740 by decide +kernel), if_neg (show ¬ wJ 439721161573 = 1835627379 by decide +kernel), if_pos (show wI 0 = 0 by decide +kernel), if_neg (show ¬ wI 1 = 0 by decide +kernel), if_pos (show 0 ≤ wI 0 ∧ wI 0 < 4 by decide +kernel), if_pos (show 0 ≤ wI 1 ∧ wI 1 < 4 by decide +kernel)] at hrr
  simp only [show (wI 0).toNat = 0 from rfl, show (wI 1).toNat = 1 from rfl] at hrr
  rw [show sX12_full 359 0 40 (f : Int) R = some Q from a2, ob_s, a3, ob_s] at hrr
  rw [ob_s, g359_21] at hrr
  obtain ⟨R0w, eR0w⟩ : ∃ N : MM, N = mU R0 371 0 0 := ⟨_, rfl⟩
  rw [← eR0w] at hrr
  have wR0w : ∀ a, a ≠ 371 → R0w a = R0 a := fun a ha => by rw [eR0w]; exact mU_row _ _ ha
  have aEw := trE wR0w aE
  have aTw := trT wR0w aT
  have aFw := trF wR0w aF
  have gR0w : R0w 359 23 = R0 359 23 := by rw [wR0w 359 (by omega)]
  have WR0w := trW wR0w aV
  have x0R0w : R0w 371 0 = 0 := by rw [eR0w, mU_eq]
  rcases num2 aEw aTw aFw (s := ((4 : Nat) : Int)) (k := 25) (i := 0) (r := 0) (lo := 0) (up := 7) (bu := (-1)) (by omega) (by decide) (by omega) (fun z => absurd rfl z) ⟨by omega, by omega⟩ ⟨by omega, by omega⟩ ⟨by omega, by omega⟩ (hok_p (by decide +kernel) (by decide +kernel) (by omega)) 99999 with ⟨x1, x2⟩ | ⟨C1, R1, f1, t1, k1, v0, x1, x2, p0_E, p0_T, p0_F, p0_o, p0_l, p0_A, p0_B, p0_c, p0_r, p0_0, p0_9, p0_g⟩
  · rw [show sX12_take 359 0 0 7 R0w = _ from take0 x2] at hrr
    exact outF (R' := mU R0w 359 17 (f0 : Int)) (hrc.trans x1) (hrr.symm.trans rfl) aTw.1.1 (mU_eq _ _ _ _) hH aW (XB_u (WB_X WR0w))
  rw [show sX12_take 359 0 0 7 R0w = _ from take1 x2, ob_s] at hrr
  dsimp only at hrr
  rw [i10] at hrr
  have hrc := hrc.trans x1
  have p0_W := WA_t aW (WA_n p0_A)
  have p0_V := WB_t WR0w (WB_n p0_B)
  rw [ob_s] at hrr
  obtain ⟨R1w, eR1w⟩ : ∃ N : MM, N = mU R1 371 1 0 := ⟨_, rfl⟩
  rw [← eR1w] at hrr
  have wR1w : ∀ a, a ≠ 371 → R1w a = R1 a := fun a ha => by rw [eR1w]; exact mU_row _ _ ha
  have p0_Ew := trE wR1w p0_E
  have p0_Tw := trT wR1w p0_T
  have p0_Fw := trF wR1w p0_F
  have gR1w : R1w 359 23 = R1 359 23 := by rw [wR1w 359 (by omega)]
  have WR1w := trW wR1w p0_V
  have x1R1w : R1w 371 1 = 0 := by rw [eR1w, mU_eq]
  have y0R1w : R1w 371 0 = v0 := by rw [eR1w, mU_ne _ _ (by omega)]; exact p0_r
  have hrc := hrc.trans (numE (k := 25) (by omega) 99998)
  have h5 : C1 79 5 = 0 → (C 79 5 = 0 ∧ R 370 0 ≠ 40) ∧ (0 ≤ v0 ∧ v0 ≤ 7 ∧ v0 ≠ -1) := by
    intro z
    obtain ⟨p0_q, p0_z⟩ := (gz p0_g).1 z
    exact ⟨aD p0_z, p0_q⟩
  have w370 : R1w 370 = R 370 := WR1w.1 370 (by omega) (by omega)
  have w22 : R1w 359 22 = R 359 22 := WR1w.2
  obtain ⟨n, hn⟩ := Int.eq_ofNat_of_zero_le hB0.1
  by_cases hmost : R 370 0 = 40
  · rw [show sX12_keep 359 0 2 2 40 R1w = _ from keepN (c := 0) (by omega) (by rw [w370]; exact hmost), ob_s] at hrr
    exact outG hrc hrr.symm p0_Ew p0_Tw p0_Fw (by omega) (fun a _ _ _ => rfl) (fun j _ => rfl) (RB_c hB w370 w22) p0_W (WB_X WR1w) hH (fun z => absurd hmost (h5 z).1.2)
  · have ek := keepB (R := R1w) (c := 0) (n := n) (p := 2 + 2 * n) (w := 2) (fr := 2) (most := 40) (by omega) (by rw [w370]; exact hn) (by omega) (by omega) (by omega) (by omega)
    rw [show sX12_keep 359 0 2 2 40 R1w = _ from ek, ob_s] at hrr
    have hrow : ∀ a, a ≠ 370 → mU (kpR R1w (2 + 2 * n) 2) 370 0 ((n : Int) + 1) a = R1w a := fun a ha => kp_r ha
    refine outG hrc hrr.symm p0_Ew p0_Tw p0_Fw (by omega) (fun a _ h _ => hrow a h) (fun j _ => by rw [hrow 359 (by omega)]) ?_ p0_W (WB_X WR1w) hH (fun z C'' hrw h12 h114 => ?_)
    · refine ⟨by rw [kp_c]; omega, ?_, fun z => absurd z (by omega), ?_, ?_⟩
      · rw [kp_c]; show (n : Int) + 1 ≤ 40; omega
      · intro z; rw [kp_o (by omega) (by omega), w370]; exact hB.2.2.2.1 z
      · rw [hrow 359 (by omega), w22]; exact hB.2.2.2.2
    · obtain ⟨⟨z1, z2⟩, y0⟩ := h5 z
      have hC0 : C'' 114 0 = v0 := by rw [h114]; exact p0_c
      have hd0 := hd z1
      have hdc : RC C'' 105 (R 370) := RC_c (fun j hj => hrw _ (by omega) (by omega)) hd0.1
      have hcn : C'' 106 4 = (n : Int) := (hdc.1).trans hn
      have hl := addL (C := C'') (q := 106) (m := 40) (n := n) (x := 0) (y := v0) (z := 0) LG_106 (by rw [hrw _ (by omega) (by omega)]; exact hH.1.2.2.2.1) hcn (by omega) (by omega)
      refine ⟨aL C'' 106 n 0 v0 0, ?_, ?_, HM_106 (HM_c hH (C' := C'') (fun a ha hb => hrw a (by omega) (by omega))) (by omega), fun a ha => aL_f (by omega), fun j hj => by rw [aL_f (by omega)]⟩
      · unfold sX7_keep sX7_keep_b0
        unfold sX7_keep_b221 sX7_keep_b246
        rw [show wI ((25 : Nat) : Int) = 25 by decide +kernel, if_pos (by omega), if_pos (by omega), if_neg (by omega), if_pos (by omega), if_neg (by omega), if_neg (by omega)]
        rw [if_neg (by omega), if_pos rfl, if_neg (by omega), g79_4, g105_0, g79_7, hC0, hl, ob_s]
      · show RC _ 105 _ ∧ RV _
        exact RC_a ⟨hdc, hd0.2⟩ hn (by omega) ⟨by omega, by omega, by omega, by omega⟩ kp_c ((kp_i (i := 0) (by omega) (by omega)).trans y0R1w) ((show 3 + 2 * n = 2 + 2 * n + 1 by omega) ▸ (kp_i (i := 1) (by omega) (by omega)).trans x1R1w) (fun j hj hj' hj'' => by rw [kp_o hj (by omega), w370])
theorem kl_26 {T : Nat → Int} {L f t : Nat} {C R : MM} (h : LNP T L 4 f t C R) : OUT T L 4 26 f C R (sX7_readsLine_b18 79 1 ((4 : Nat) : Int) ((26 : Nat) : Int) C) (sX12_recordLine 359 6842740 (f : Int) R) := by
  obtain ⟨hE, hT, hF, hB, hH, hD, hg⟩ := h
  have hfu : sX7_isFull 79 ((26 : Nat) : Int) C = some (if C 110 4 = 15 then 1 else 0) := fu_e hH (by omega)
  have hB0 : 0 ≤ R 370 1 ∧ R 370 1 ≤ 15 := hB.2.2.2.1 rfl
  have hd : C 79 5 = 0 → RC C 105 (R 370) ∧ RV (R 370) := fun z => hD z
  obtain ⟨C0, Q, R0, f0, t0, k0, a1, a2, a3, aE, aT, aF, aff, aW, aV, a23, a371, aD⟩ := headF (s := ((4 : Nat) : Int)) (k := 26) (c := 1) (most := 15) hE hT hF (by omega) hfu (i01 _ _) (fun z => by rw [i1f, show C 110 4 = R 370 1 from (hd z).1.2.1]) ⟨by omega, by omega⟩ ⟨by omega, by omega⟩ (by omega)
  generalize hrr : sX12_recordLine 359 6842740 (f : Int) R = rr
  generalize hrc : sX7_readsLine_b18 79 1 ((4 : Nat) : Int) ((26 : Nat) : Int) C = rc
  rw [a1] at hrc
  have hrc := hrc.symm
  unfold sX12_recordLine sX12_recordLine_b0 sX12_recordLine_b16 sX12_recordLine_b21 sX12_recordLine_b49 sX12_recordLine_b60 sX12_recordLine_b72 sX12_recordLine_b98 sX12_recordLine_b117 sX12_recordLine_b135 at hrr
  simp only [if_neg (show ¬ wJ 6842740 = 1953658213 by decide +kernel), if_neg (show ¬ wJ 6842740 = 439721161573 by decide +kernel), if_pos (show wJ 6842740 = 6842740 by decide +kernel), if_neg (show ¬ wJ 6842740 = 1835627379 by decide +kernel), if_pos (show wI 0 = 0 by decide +kernel), if_neg (show ¬ wI 1 = 0 by decide +kernel), if_pos (show 0 ≤ wI 0 ∧ wI 0 < 4 by decide +kernel), if_pos (show 0 ≤ wI 1 ∧ wI 1 < 4 by decide +kernel)] at hrr
  simp only [show (wI 0).toNat = 0 from rfl, show (wI 1).toNat = 1 from rfl] at hrr
  rw [show sX12_full 359 1 15 (f : Int) R = some Q from a2, ob_s, a3, ob_s] at hrr
  rw [ob_s, g359_21] at hrr
  obtain ⟨R0w, eR0w⟩ : ∃ N : MM, N = mU R0 371 0 1 := ⟨_, rfl⟩
  rw [← eR0w] at hrr
  have wR0w : ∀ a, a ≠ 371 → R0w a = R0 a := fun a ha => by rw [eR0w]; exact mU_row _ _ ha
  have aEw := trE wR0w aE
  have aTw := trT wR0w aT
  have aFw := trF wR0w aF
  have gR0w : R0w 359 23 = R0 359 23 := by rw [wR0w 359 (by omega)]
  have WR0w := trW wR0w aV
  have x0R0w : R0w 371 0 = 1 := by rw [eR0w, mU_eq]
  rw [ob_s] at hrr
  obtain ⟨R0ww, eR0ww⟩ : ∃ N : MM, N = mU R0w 371 1 0 := ⟨_, rfl⟩
  rw [← eR0ww] at hrr
  have wR0ww : ∀ a, a ≠ 371 → R0ww a = R0w a := fun a ha => by rw [eR0ww]; exact mU_row _ _ ha
  have aEww := trE wR0ww aEw
  have aTww := trT wR0ww aTw
  have aFww := trF wR0ww aFw
  have gR0ww : R0ww 359 23 = R0w 359 23 := by rw [wR0ww 359 (by omega)]
  have WR0ww := trW wR0ww WR0w
  have x0R0ww : R0ww 371 0 = 1 := by rw [eR0ww, mU_ne _ _ (by omega)]; exact x0R0w
  have x1R0ww : R0ww 371 1 = 0 := by rw [eR0ww, mU_eq]
  have hrc := hrc.trans (numE (k := 26) (by omega) 99999)
  have h5 : C0 79 5 = 0 → (C 79 5 = 0 ∧ R 370 1 ≠ 15) := by
    intro z
    exact aD z
  have w370 : R0ww 370 = R 370 := WR0ww.1 370 (by omega) (by omega)
  have w22 : R0ww 359 22 = R 359 22 := WR0ww.2
  obtain ⟨n, hn⟩ := Int.eq_ofNat_of_zero_le hB0.1
  by_cases hmost : R 370 1 = 15
  · rw [show sX12_keep 359 1 82 1 15 R0ww = _ from keepN (c := 1) (by omega) (by rw [w370]; exact hmost), ob_s] at hrr
    exact outG hrc hrr.symm aEww aTww aFww (by omega) (fun a _ _ _ => rfl) (fun j _ => rfl) (RB_c hB w370 w22) aW (WB_X WR0ww) hH (fun z => absurd hmost (h5 z).2)
  · have ek := keepB (R := R0ww) (c := 1) (n := n) (p := 82 + 1 * n) (w := 1) (fr := 82) (most := 15) (by omega) (by rw [w370]; exact hn) (by omega) (by omega) (by omega) (by omega)
    rw [show sX12_keep 359 1 82 1 15 R0ww = _ from ek, ob_s] at hrr
    have hrow : ∀ a, a ≠ 370 → mU (kpR R0ww (82 + 1 * n) 1) 370 1 ((n : Int) + 1) a = R0ww a := fun a ha => kp_r ha
    refine outG hrc hrr.symm aEww aTww aFww (by omega) (fun a _ h _ => hrow a h) (fun j _ => by rw [hrow 359 (by omega)]) ?_ aW (WB_X WR0ww) hH (fun z C'' hrw h12 h114 => ?_)
    · refine ⟨?_, ?_, fun z => absurd z (by omega), fun _ => ⟨?_, ?_⟩, ?_⟩
      · rw [kp_o (by omega) (by omega), w370]; exact hB.1
      · rw [kp_o (by omega) (by omega), w370]; exact hB.2.1
      · rw [kp_c]; omega
      · rw [kp_c]; omega
      · rw [hrow 359 (by omega), w22]; exact hB.2.2.2.2
    · obtain ⟨z1, z2⟩ := h5 z
      have hd0 := hd z1
      have hdc : RC C'' 105 (R 370) := RC_c (fun j hj => hrw _ (by omega) (by omega)) hd0.1
      have hcn : C'' 110 4 = (n : Int) := (hdc.2.1).trans hn
      have hl := addL (C := C'') (q := 110) (m := 15) (n := n) (x := 0) (y := -1) (z := 1) LG_110 (by rw [hrw _ (by omega) (by omega)]; exact hH.1.2.2.2.2) hcn (by omega) (by omega)
      refine ⟨aL C'' 110 n 0 (-1) 1, ?_, ?_, HM_110 (HM_c hH (C' := C'') (fun a ha hb => hrw a (by omega) (by omega))) (by omega), fun a ha => aL_f (by omega), fun j hj => by rw [aL_f (by omega)]⟩
      · unfold sX7_keep sX7_keep_b0
        unfold sX7_keep_b272
        rw [show wI ((26 : Nat) : Int) = 26 by decide +kernel, if_pos (by omega), if_pos (by omega), if_neg (by omega), if_pos (by omega), if_neg (by omega), if_neg (by omega), if_neg (by omega), if_neg (by omega), if_pos rfl, g79_4, g105_1, hl, ob_s]
      · show RC _ 105 _ ∧ RV _
        exact RC_b ⟨hdc, hd0.2⟩ hn (by omega) ⟨by omega, by omega⟩ kp_c ((show 82 + n = 82 + 1 * n + 0 by omega) ▸ (kp_i (i := 0) (by omega) (by omega)).trans x0R0ww) (fun j hj hj' => by rw [kp_o hj (by omega), w370])
theorem kl_27 {T : Nat → Int} {L f t : Nat} {C R : MM} (h : LNP T L 4 f t C R) : OUT T L 4 27 f C R (sX7_readsLine_b18 79 1 ((4 : Nat) : Int) ((27 : Nat) : Int) C) (sX12_recordLine 359 1835627379 (f : Int) R) := by
  obtain ⟨hE, hT, hF, hB, hH, hD, hg⟩ := h
  have hfu : sX7_isFull 79 ((27 : Nat) : Int) C = some (if C 110 4 = 15 then 1 else 0) := fu_e hH (by omega)
  have hB0 : 0 ≤ R 370 1 ∧ R 370 1 ≤ 15 := hB.2.2.2.1 rfl
  have hd : C 79 5 = 0 → RC C 105 (R 370) ∧ RV (R 370) := fun z => hD z
  obtain ⟨C0, Q, R0, f0, t0, k0, a1, a2, a3, aE, aT, aF, aff, aW, aV, a23, a371, aD⟩ := headF (s := ((4 : Nat) : Int)) (k := 27) (c := 1) (most := 15) hE hT hF (by omega) hfu (i01 _ _) (fun z => by rw [i1f, show C 110 4 = R 370 1 from (hd z).1.2.1]) ⟨by omega, by omega⟩ ⟨by omega, by omega⟩ (by omega)
  generalize hrr : sX12_recordLine 359 1835627379 (f : Int) R = rr
  generalize hrc : sX7_readsLine_b18 79 1 ((4 : Nat) : Int) ((27 : Nat) : Int) C = rc
  rw [a1] at hrc
  have hrc := hrc.symm
  unfold sX12_recordLine sX12_recordLine_b0 sX12_recordLine_b16 sX12_recordLine_b21 sX12_recordLine_b49 sX12_recordLine_b60 sX12_recordLine_b72 sX12_recordLine_b98 sX12_recordLine_b117 sX12_recordLine_b135 at hrr
  simp only [if_neg (show ¬ wJ 1835627379 = 1953658213 by decide +kernel), if_neg (show ¬ wJ 1835627379 = 439721161573 by decide +kernel), if_neg (show ¬ wJ 1835627379 = 6842740 by decide +kernel), if_pos (show wJ 1835627379 = 1835627379 by decide +kernel), if_pos (show wI 0 = 0 by decide +kernel), if_neg (show ¬ wI 1 = 0 by decide +kernel), if_pos (show 0 ≤ wI 0 ∧ wI 0 < 4 by decide +kernel), if_pos (show 0 ≤ wI 1 ∧ wI 1 < 4 by decide +kernel)] at hrr
  simp only [show (wI 0).toNat = 0 from rfl, show (wI 1).toNat = 1 from rfl] at hrr
  rw [show sX12_full 359 1 15 (f : Int) R = some Q from a2, ob_s, a3, ob_s] at hrr
  rw [ob_s, g359_21] at hrr
  obtain ⟨R0w, eR0w⟩ : ∃ N : MM, N = mU R0 371 0 0 := ⟨_, rfl⟩
  rw [← eR0w] at hrr
  have wR0w : ∀ a, a ≠ 371 → R0w a = R0 a := fun a ha => by rw [eR0w]; exact mU_row _ _ ha
  have aEw := trE wR0w aE
  have aTw := trT wR0w aT
  have aFw := trF wR0w aF
  have gR0w : R0w 359 23 = R0 359 23 := by rw [wR0w 359 (by omega)]
  have WR0w := trW wR0w aV
  have x0R0w : R0w 371 0 = 0 := by rw [eR0w, mU_eq]
  rw [ob_s] at hrr
  obtain ⟨R0ww, eR0ww⟩ : ∃ N : MM, N = mU R0w 371 1 0 := ⟨_, rfl⟩
  rw [← eR0ww] at hrr
  have wR0ww : ∀ a, a ≠ 371 → R0ww a = R0w a := fun a ha => by rw [eR0ww]; exact mU_row _ _ ha
  have aEww := trE wR0ww aEw
  have aTww := trT wR0ww aTw
  have aFww := trF wR0ww aFw
  have gR0ww : R0ww 359 23 = R0w 359 23 := by rw [wR0ww 359 (by omega)]
  have WR0ww := trW wR0ww WR0w
  have x0R0ww : R0ww 371 0 = 0 := by rw [eR0ww, mU_ne _ _ (by omega)]; exact x0R0w
  have x1R0ww : R0ww 371 1 = 0 := by rw [eR0ww, mU_eq]
  have hrc := hrc.trans (numE (k := 27) (by omega) 99999)
  have h5 : C0 79 5 = 0 → (C 79 5 = 0 ∧ R 370 1 ≠ 15) := by
    intro z
    exact aD z
  have w370 : R0ww 370 = R 370 := WR0ww.1 370 (by omega) (by omega)
  have w22 : R0ww 359 22 = R 359 22 := WR0ww.2
  obtain ⟨n, hn⟩ := Int.eq_ofNat_of_zero_le hB0.1
  by_cases hmost : R 370 1 = 15
  · rw [show sX12_keep 359 1 82 1 15 R0ww = _ from keepN (c := 1) (by omega) (by rw [w370]; exact hmost), ob_s] at hrr
    exact outG hrc hrr.symm aEww aTww aFww (by omega) (fun a _ _ _ => rfl) (fun j _ => rfl) (RB_c hB w370 w22) aW (WB_X WR0ww) hH (fun z => absurd hmost (h5 z).2)
  · have ek := keepB (R := R0ww) (c := 1) (n := n) (p := 82 + 1 * n) (w := 1) (fr := 82) (most := 15) (by omega) (by rw [w370]; exact hn) (by omega) (by omega) (by omega) (by omega)
    rw [show sX12_keep 359 1 82 1 15 R0ww = _ from ek, ob_s] at hrr
    have hrow : ∀ a, a ≠ 370 → mU (kpR R0ww (82 + 1 * n) 1) 370 1 ((n : Int) + 1) a = R0ww a := fun a ha => kp_r ha
    refine outG hrc hrr.symm aEww aTww aFww (by omega) (fun a _ h _ => hrow a h) (fun j _ => by rw [hrow 359 (by omega)]) ?_ aW (WB_X WR0ww) hH (fun z C'' hrw h12 h114 => ?_)
    · refine ⟨?_, ?_, fun z => absurd z (by omega), fun _ => ⟨?_, ?_⟩, ?_⟩
      · rw [kp_o (by omega) (by omega), w370]; exact hB.1
      · rw [kp_o (by omega) (by omega), w370]; exact hB.2.1
      · rw [kp_c]; omega
      · rw [kp_c]; omega
      · rw [hrow 359 (by omega), w22]; exact hB.2.2.2.2
    · obtain ⟨z1, z2⟩ := h5 z
      have hd0 := hd z1
      have hdc : RC C'' 105 (R 370) := RC_c (fun j hj => hrw _ (by omega) (by omega)) hd0.1
      have hcn : C'' 110 4 = (n : Int) := (hdc.2.1).trans hn
      have hl := addL (C := C'') (q := 110) (m := 15) (n := n) (x := 0) (y := -1) (z := 0) LG_110 (by rw [hrw _ (by omega) (by omega)]; exact hH.1.2.2.2.2) hcn (by omega) (by omega)
      refine ⟨aL C'' 110 n 0 (-1) 0, ?_, ?_, HM_110 (HM_c hH (C' := C'') (fun a ha hb => hrw a (by omega) (by omega))) (by omega), fun a ha => aL_f (by omega), fun j hj => by rw [aL_f (by omega)]⟩
      · unfold sX7_keep sX7_keep_b0
        unfold sX7_keep_b272
        rw [show wI ((27 : Nat) : Int) = 27 by decide +kernel, if_pos (by omega), if_pos (by omega), if_neg (by omega), if_pos (by omega), if_neg (by omega), if_neg (by omega), if_neg (by omega), if_neg (by omega), if_neg (by omega), g79_4, g105_1, hl, ob_s]
      · show RC _ 105 _ ∧ RV _
        exact RC_b ⟨hdc, hd0.2⟩ hn (by omega) ⟨by omega, by omega⟩ kp_c ((show 82 + n = 82 + 1 * n + 0 by omega) ▸ (kp_i (i := 0) (by omega) (by omega)).trans x0R0ww) (fun j hj hj' => by rw [kp_o hj (by omega), w370])
