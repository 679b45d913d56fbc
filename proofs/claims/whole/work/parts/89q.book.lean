theorem kl_12 {T : Nat → Int} {L f t : Nat} {C R : MM} (h : LNP T L 1 f t C R) : OUT T L 1 12 f C R (sX7_readsLine_b18 79 1 ((1 : Nat) : Int) ((12 : Nat) : Int) C) (sX12_bookLine 359 26479 (f : Int) R) := by
  obtain ⟨hE, hT, hF, hB, hH, hD, hg⟩ := h
  have hfu : sX7_isFull 79 ((12 : Nat) : Int) C = some (if C 91 4 = 40 then 1 else 0) := fu_e hH (by omega)
  have hB0 : 0 ≤ R 370 0 ∧ R 370 0 ≤ 40 := ⟨hB.1, hB.2.1⟩
  have hd : C 79 5 = 0 → BC C 91 (R 370) ∧ BV (R 370) := fun z => hD z
  obtain ⟨C0, Q, R0, f0, t0, k0, a1, a2, a3, aE, aT, aF, aff, aW, aV, a23, a371, aD⟩ := headF (s := ((1 : Nat) : Int)) (k := 12) (c := 0) (most := 40) hE hT hF (by omega) hfu (i01 _ _) (fun z => by rw [i1f, (hd z).1.1]) ⟨by omega, by omega⟩ ⟨by omega, by omega⟩ (by omega)
  generalize hrr : sX12_bookLine 359 26479 (f : Int) R = rr
  generalize hrc : sX7_readsLine_b18 79 1 ((1 : Nat) : Int) ((12 : Nat) : Int) C = rc
  rw [a1] at hrc
  have hrc := hrc.symm
  unfold sX12_bookLine sX12_bookLine_b0 sX12_bookLine_b63 sX12_bookLine_b68 sX12_bookLine_b88 sX12_bookLine_b105 sX12_bookLine_b112 sX12_bookLine_b120 sX12_bookLine_b139 at hrr
  rw [show sX12_deedBy 26479 = 0 by decide +kernel] at hrr
  simp only [if_neg (show ¬ wI 0 = (-1) by decide +kernel), if_pos (show wI 0 = 0 by decide +kernel), if_neg (show ¬ wI 0 = 1 by decide +kernel), if_neg (show ¬ wI 0 = 2 by decide +kernel), if_neg (show ¬ wI 0 = 3 by decide +kernel), if_neg (show ¬ wI 0 = 4 by decide +kernel), if_neg (show ¬ wI 0 = 5 by decide +kernel)] at hrr
  rw [show sX12_full 359 0 40 (f : Int) R = some Q from a2, ob_s, a3, ob_s] at hrr
  rw [ob_s, g359_21] at hrr
  obtain ⟨R0w, eR0w⟩ : ∃ N : MM, N = mU R0 371 0 0 := ⟨_, rfl⟩
  rw [← eR0w] at hrr
  have wR0w : ∀ a, a ≠ 371 → R0w a = R0 a := fun a ha => by rw [eR0w]; exact mU_row _ _ ha
  have aEw := trE wR0w aE
  have aTw := trT wR0w aT
  have aFw := trF wR0w aF
  have gR0w : R0w 359 23 = R0 359 23 := by rw [wR0w 359 (by omega)]
  have WR0w := trW wR0w aV
  have x0R0w : R0w 371 0 = 0 := by rw [eR0w, mU_eq]
  rw [ob_s] at hrr
  obtain ⟨R0ww, eR0ww⟩ : ∃ N : MM, N = mU R0w 371 1 (-1) := ⟨_, rfl⟩
  rw [← eR0ww] at hrr
  have wR0ww : ∀ a, a ≠ 371 → R0ww a = R0w a := fun a ha => by rw [eR0ww]; exact mU_row _ _ ha
  have aEww := trE wR0ww aEw
  have aTww := trT wR0ww aTw
  have aFww := trF wR0ww aFw
  have gR0ww : R0ww 359 23 = R0w 359 23 := by rw [wR0ww 359 (by omega)]
  have WR0ww := trW wR0ww WR0w
  have x0R0ww : R0ww 371 0 = 0 := by rw [eR0ww, mU_ne _ _ (by omega)]; exact x0R0w
  have x1R0ww : R0ww 371 1 = (-1) := by rw [eR0ww, mU_eq]
  rw [ob_s] at hrr
  obtain ⟨R0www, eR0www⟩ : ∃ N : MM, N = mU R0ww 371 2 (-1) := ⟨_, rfl⟩
  rw [← eR0www] at hrr
  have wR0www : ∀ a, a ≠ 371 → R0www a = R0ww a := fun a ha => by rw [eR0www]; exact mU_row _ _ ha
  have aEwww := trE wR0www aEww
  have aTwww := trT wR0www aTww
  have aFwww := trF wR0www aFww
  have gR0www : R0www 359 23 = R0ww 359 23 := by rw [wR0www 359 (by omega)]
  have WR0www := trW wR0www WR0ww
  have x0R0www : R0www 371 0 = 0 := by rw [eR0www, mU_ne _ _ (by omega)]; exact x0R0ww
  have x1R0www : R0www 371 1 = (-1) := by rw [eR0www, mU_ne _ _ (by omega)]; exact x1R0ww
  have x2R0www : R0www 371 2 = (-1) := by rw [eR0www, mU_eq]
  rcases num2 aEwww aTwww aFwww (s := ((1 : Nat) : Int)) (k := 12) (i := 0) (r := 1) (lo := 0) (up := 7) (bu := (-1)) (by omega) (by decide) (by omega) (fun z => absurd rfl z) ⟨by omega, by omega⟩ ⟨by omega, by omega⟩ ⟨by omega, by omega⟩ (hok_p (by decide +kernel) (by decide +kernel) (by omega)) 99999 with ⟨x1, x2⟩ | ⟨C1, R1, f1, t1, k1, v0, x1, x2, p0_E, p0_T, p0_F, p0_o, p0_l, p0_A, p0_B, p0_c, p0_r, p0_0, p0_9, p0_g⟩
  · rw [show sX12_take 359 1 0 7 R0www = _ from take0 x2] at hrr
    exact outF (R' := mU R0www 359 17 (f0 : Int)) (hrc.trans x1) (hrr.symm.trans rfl) aTwww.1.1 (mU_eq _ _ _ _) hH aW (XB_u (WB_X WR0www))
  rw [show sX12_take 359 1 0 7 R0www = _ from take1 x2, ob_s] at hrr
  dsimp only at hrr
  rw [i10] at hrr
  have hrc := hrc.trans x1
  have p0_W := WA_t aW (WA_n p0_A)
  have p0_V := WB_t WR0www (WB_n p0_B)
  have p0_x0 : R1 371 0 = 0 := by rw [p0_B 371 0 (by omega) (by omega)]; exact x0R0www
  have p0_x2 : R1 371 2 = (-1) := by rw [p0_B 371 2 (by omega) (by omega)]; exact x2R0www
  have hrc := hrc.trans (numE (k := 12) (by omega) 99998)
  have h5 : C1 79 5 = 0 → (C 79 5 = 0 ∧ R 370 0 ≠ 40) ∧ (0 ≤ v0 ∧ v0 ≤ 7 ∧ v0 ≠ -1) := by
    intro z
    obtain ⟨p0_q, p0_z⟩ := (gz p0_g).1 z
    exact ⟨aD p0_z, p0_q⟩
  have w370 : R1 370 = R 370 := p0_V.1 370 (by omega) (by omega)
  have w22 : R1 359 22 = R 359 22 := p0_V.2
  obtain ⟨n, hn⟩ := Int.eq_ofNat_of_zero_le hB0.1
  by_cases hmost : R 370 0 = 40
  · rw [show sX12_keep 359 0 1 3 40 R1 = _ from keepN (c := 0) (by omega) (by rw [w370]; exact hmost), ob_s] at hrr
    exact outG hrc hrr.symm p0_E p0_T p0_F (by omega) (fun a _ _ _ => rfl) (fun j _ => rfl) (RB_c hB w370 w22) p0_W (WB_X p0_V) hH (fun z => absurd hmost (h5 z).1.2)
  · have ek := keepB (R := R1) (c := 0) (n := n) (p := 1 + 3 * n) (w := 3) (fr := 1) (most := 40) (by omega) (by rw [w370]; exact hn) (by omega) (by omega) (by omega) (by omega)
    rw [show sX12_keep 359 0 1 3 40 R1 = _ from ek, ob_s] at hrr
    have hrow : ∀ a, a ≠ 370 → mU (kpR R1 (1 + 3 * n) 3) 370 0 ((n : Int) + 1) a = R1 a := fun a ha => kp_r ha
    refine outG hrc hrr.symm p0_E p0_T p0_F (by omega) (fun a _ h _ => hrow a h) (fun j _ => by rw [hrow 359 (by omega)]) ?_ p0_W (WB_X p0_V) hH (fun z C'' hrw h12 h114 => ?_)
    · refine ⟨by rw [kp_c]; omega, ?_, fun z => absurd z (by omega), ?_, ?_⟩
      · rw [kp_c]; show (n : Int) + 1 ≤ 40; omega
      · intro z; exact absurd z (by omega)
      · rw [hrow 359 (by omega), w22]; exact hB.2.2.2.2
    · obtain ⟨⟨z1, z2⟩, y0⟩ := h5 z
      have hC0 : C'' 114 0 = v0 := by rw [h114]; exact p0_c
      have hd0 := hd z1
      have hdc : BC C'' 91 (R 370) := BC_c (fun j hj => hrw _ (by omega) (by omega)) hd0.1
      have hcn : C'' 91 4 = (n : Int) := (hdc.1).trans hn
      have hl := addL (C := C'') (q := 91) (m := 40) (n := n) (x := (((12 : Nat) : Int) - 12)) (y := v0) (z := (-1)) LG_91 (by rw [hrw _ (by omega) (by omega)]; exact hH.1.1) hcn (by omega) (by omega)
      refine ⟨aL C'' 91 n (((12 : Nat) : Int) - 12) v0 (-1), ?_, ?_, HM_91 (HM_c hH (C' := C'') (fun a ha hb => hrw a (by omega) (by omega))) (by omega), fun a ha => aL_f (by omega), fun j hj => by rw [aL_f (by omega)]⟩
      · unfold sX7_keep sX7_keep_b0 sX7_keep_b48 sX7_keep_b63
        rw [show wI ((12 : Nat) : Int) = 12 by decide +kernel, if_pos (by omega), if_neg (by omega), if_pos (by omega), show (sT 1).getD ((12 : Int)).toNat 0 = 1 by decide +kernel, show wI 1 = 1 by decide +kernel, if_neg (by omega), if_pos (by omega), g79_1, g79_7, hC0, hl, ob_s]
      · show BC _ 91 _ ∧ BV _
        exact BC_a ⟨hdc, hd0.2⟩ hn (by omega) ⟨by omega, by omega, by omega, by omega, by omega, by omega, by omega, by omega⟩ kp_c (((kp_i (i := 0) (by omega) (by omega)).trans p0_x0).trans (by omega)) ((show 2 + 3 * n = 1 + 3 * n + 1 by omega) ▸ (kp_i (i := 1) (by omega) (by omega)).trans p0_r) ((show 3 + 3 * n = 1 + 3 * n + 2 by omega) ▸ (kp_i (i := 2) (by omega) (by omega)).trans p0_x2) (fun j hj hj' => by rw [kp_o hj (by omega), w370])
theorem kl_13 {T : Nat → Int} {L f t : Nat} {C R : MM} (h : LNP T L 1 f t C R) : OUT T L 1 13 f C R (sX7_readsLine_b18 79 1 ((1 : Nat) : Int) ((13 : Nat) : Int) C) (sX12_bookLine 359 1717658469 (f : Int) R) := by
  obtain ⟨hE, hT, hF, hB, hH, hD, hg⟩ := h
  have hfu : sX7_isFull 79 ((13 : Nat) : Int) C = some (if C 91 4 = 40 then 1 else 0) := fu_e hH (by omega)
  have hB0 : 0 ≤ R 370 0 ∧ R 370 0 ≤ 40 := ⟨hB.1, hB.2.1⟩
  have hd : C 79 5 = 0 → BC C 91 (R 370) ∧ BV (R 370) := fun z => hD z
  obtain ⟨C0, Q, R0, f0, t0, k0, a1, a2, a3, aE, aT, aF, aff, aW, aV, a23, a371, aD⟩ := headF (s := ((1 : Nat) : Int)) (k := 13) (c := 0) (most := 40) hE hT hF (by omega) hfu (i01 _ _) (fun z => by rw [i1f, (hd z).1.1]) ⟨by omega, by omega⟩ ⟨by omega, by omega⟩ (by omega)
  generalize hrr : sX12_bookLine 359 1717658469 (f : Int) R = rr
  generalize hrc : sX7_readsLine_b18 79 1 ((1 : Nat) : Int) ((13 : Nat) : Int) C = rc
  rw [a1] at hrc
  have hrc := hrc.symm
  unfold sX12_bookLine sX12_bookLine_b0 sX12_bookLine_b63 sX12_bookLine_b68 sX12_bookLine_b88 sX12_bookLine_b105 sX12_bookLine_b112 sX12_bookLine_b120 sX12_bookLine_b139 at hrr
  rw [show sX12_deedBy 1717658469 = 1 by decide +kernel] at hrr
  simp only [if_neg (show ¬ wI 1 = (-1) by decide +kernel), if_neg (show ¬ wI 1 = 0 by decide +kernel), if_pos (show wI 1 = 1 by decide +kernel), if_neg (show ¬ wI 1 = 2 by decide +kernel), if_neg (show ¬ wI 1 = 3 by decide +kernel), if_neg (show ¬ wI 1 = 4 by decide +kernel), if_neg (show ¬ wI 1 = 5 by decide +kernel)] at hrr
  simp only [if_pos (show wI 0 = 0 by decide +kernel), if_neg (show ¬ wI 1 = 0 by decide +kernel)] at hrr
  rw [show sX12_full 359 0 40 (f : Int) R = some Q from a2, ob_s, a3, ob_s] at hrr
  rw [ob_s, g359_21] at hrr
  obtain ⟨R0w, eR0w⟩ : ∃ N : MM, N = mU R0 371 0 1 := ⟨_, rfl⟩
  rw [← eR0w] at hrr
  have wR0w : ∀ a, a ≠ 371 → R0w a = R0 a := fun a ha => by rw [eR0w]; exact mU_row _ _ ha
  have aEw := trE wR0w aE
  have aTw := trT wR0w aT
  have aFw := trF wR0w aF
  have gR0w : R0w 359 23 = R0 359 23 := by rw [wR0w 359 (by omega)]
  have WR0w := trW wR0w aV
  have x0R0w : R0w 371 0 = 1 := by rw [eR0w, mU_eq]
  rw [ob_s] at hrr
  obtain ⟨R0ww, eR0ww⟩ : ∃ N : MM, N = mU R0w 371 1 (-1) := ⟨_, rfl⟩
  rw [← eR0ww] at hrr
  have wR0ww : ∀ a, a ≠ 371 → R0ww a = R0w a := fun a ha => by rw [eR0ww]; exact mU_row _ _ ha
  have aEww := trE wR0ww aEw
  have aTww := trT wR0ww aTw
  have aFww := trF wR0ww aFw
  have gR0ww : R0ww 359 23 = R0w 359 23 := by rw [wR0ww 359 (by omega)]
  have WR0ww := trW wR0ww WR0w
  have x0R0ww : R0ww 371 0 = 1 := by rw [eR0ww, mU_ne _ _ (by omega)]; exact x0R0w
  have x1R0ww : R0ww 371 1 = (-1) := by rw [eR0ww, mU_eq]
  rw [ob_s] at hrr
  obtain ⟨R0www, eR0www⟩ : ∃ N : MM, N = mU R0ww 371 2 (-1) := ⟨_, rfl⟩
  rw [← eR0www] at hrr
  have wR0www : ∀ a, a ≠ 371 → R0www a = R0ww a := fun a ha => by rw [eR0www]; exact mU_row _ _ ha
  have aEwww := trE wR0www aEww
  have aTwww := trT wR0www aTww
  have aFwww := trF wR0www aFww
  have gR0www : R0www 359 23 = R0ww 359 23 := by rw [wR0www 359 (by omega)]
  have WR0www := trW wR0www WR0ww
  have x0R0www : R0www 371 0 = 1 := by rw [eR0www, mU_ne _ _ (by omega)]; exact x0R0ww
  have x1R0www : R0www 371 1 = (-1) := by rw [eR0www, mU_ne _ _ (by omega)]; exact x1R0ww
  have x2R0www : R0www 371 2 = (-1) := by rw [eR0www, mU_eq]
  rcases num2 aEwww aTwww aFwww (s := ((1 : Nat) : Int)) (k := 13) (i := 0) (r := 1) (lo := 0) (up := 7) (bu := (-1)) (by omega) (by decide) (by omega) (fun z => absurd rfl z) ⟨by omega, by omega⟩ ⟨by omega, by omega⟩ ⟨by omega, by omega⟩ (hok_p (by decide +kernel) (by decide +kernel) (by omega)) 99999 with ⟨x1, x2⟩ | ⟨C1, R1, f1, t1, k1, v0, x1, x2, p0_E, p0_T, p0_F, p0_o, p0_l, p0_A, p0_B, p0_c, p0_r, p0_0, p0_9, p0_g⟩
  · rw [show sX12_take 359 1 0 7 R0www = _ from take0 x2] at hrr
    exact outF (R' := mU R0www 359 17 (f0 : Int)) (hrc.trans x1) (hrr.symm.trans rfl) aTwww.1.1 (mU_eq _ _ _ _) hH aW (XB_u (WB_X WR0www))
  rw [show sX12_take 359 1 0 7 R0www = _ from take1 x2, ob_s] at hrr
  dsimp only at hrr
  rw [i10] at hrr
  have hrc := hrc.trans x1
  have p0_W := WA_t aW (WA_n p0_A)
  have p0_V := WB_t WR0www (WB_n p0_B)
  have p0_x0 : R1 371 0 = 1 := by rw [p0_B 371 0 (by omega) (by omega)]; exact x0R0www
  have p0_x2 : R1 371 2 = (-1) := by rw [p0_B 371 2 (by omega) (by omega)]; exact x2R0www
  have hrc := hrc.trans (numE (k := 13) (by omega) 99998)
  have h5 : C1 79 5 = 0 → (C 79 5 = 0 ∧ R 370 0 ≠ 40) ∧ (0 ≤ v0 ∧ v0 ≤ 7 ∧ v0 ≠ -1) := by
    intro z
    obtain ⟨p0_q, p0_z⟩ := (gz p0_g).1 z
    exact ⟨aD p0_z, p0_q⟩
  have w370 : R1 370 = R 370 := p0_V.1 370 (by omega) (by omega)
  have w22 : R1 359 22 = R 359 22 := p0_V.2
  obtain ⟨n, hn⟩ := Int.eq_ofNat_of_zero_le hB0.1
  by_cases hmost : R 370 0 = 40
  · rw [show sX12_keep 359 0 1 3 40 R1 = _ from keepN (c := 0) (by omega) (by rw [w370]; exact hmost), ob_s] at hrr
    exact outG hrc hrr.symm p0_E p0_T p0_F (by omega) (fun a _ _ _ => rfl) (fun j _ => rfl) (RB_c hB w370 w22) p0_W (WB_X p0_V) hH (fun z => absurd hmost (h5 z).1.2)
  · have ek := keepB (R := R1) (c := 0) (n := n) (p := 1 + 3 * n) (w := 3) (fr := 1) (most := 40) (by omega) (by rw [w370]; exact hn) (by omega) (by omega) (by omega) (by omega)
    rw [show sX12_keep 359 0 1 3 40 R1 = _ from ek, ob_s] at hrr
    have hrow : ∀ a, a ≠ 370 → mU (kpR R1 (1 + 3 * n) 3) 370 0 ((n : Int) + 1) a = R1 a := fun a ha => kp_r ha
    refine outG hrc hrr.symm p0_E p0_T p0_F (by omega) (fun a _ h _ => hrow a h) (fun j _ => by rw [hrow 359 (by omega)]) ?_ p0_W (WB_X p0_V) hH (fun z C'' hrw h12 h114 => ?_)
    · refine ⟨by rw [kp_c]; omega, ?_, fun z => absurd z (by omega), ?_, ?_⟩
      · rw [kp_c]; show (n : Int) + 1 ≤ 40; omega
      · intro z; exact absurd z (by omega)
      · rw [hrow 359 (by omega), w22]; exact hB.2.2.2.2
    · obtain ⟨⟨z1, z2⟩, y0⟩ := h5 z
      have hC0 : C'' 114 0 = v0 := by rw [h114]; exact p0_c
      have hd0 := hd z1
      have hdc : BC C'' 91 (R 370) := BC_c (fun j hj => hrw _ (by omega) (by omega)) hd0.1
      have hcn : C'' 91 4 = (n : Int) := (hdc.1).trans hn
      have hl := addL (C := C'') (q := 91) (m := 40) (n := n) (x := (((13 : Nat) : Int) - 12)) (y := v0) (z := (-1)) LG_91 (by rw [hrw _ (by omega) (by omega)]; exact hH.1.1) hcn (by omega) (by omega)
      refine ⟨aL C'' 91 n (((13 : Nat) : Int) - 12) v0 (-1), ?_, ?_, HM_91 (HM_c hH (C' := C'') (fun a ha hb => hrw a (by omega) (by omega))) (by omega), fun a ha => aL_f (by omega), fun j hj => by rw [aL_f (by omega)]⟩
      · unfold sX7_keep sX7_keep_b0 sX7_keep_b48 sX7_keep_b63
        rw [show wI ((13 : Nat) : Int) = 13 by decide +kernel, if_pos (by omega), if_neg (by omega), if_pos (by omega), show (sT 1).getD ((13 : Int)).toNat 0 = 1 by decide +kernel, show wI 1 = 1 by decide +kernel, if_neg (by omega), if_pos (by omega), g79_1, g79_7, hC0, hl, ob_s]
      · show BC _ 91 _ ∧ BV _
        exact BC_a ⟨hdc, hd0.2⟩ hn (by omega) ⟨by omega, by omega, by omega, by omega, by omega, by omega, by omega, by omega⟩ kp_c (((kp_i (i := 0) (by omega) (by omega)).trans p0_x0).trans (by omega)) ((show 2 + 3 * n = 1 + 3 * n + 1 by omega) ▸ (kp_i (i := 1) (by omega) (by omega)).trans p0_r) ((show 3 + 3 * n = 1 + 3 * n + 2 by omega) ▸ (kp_i (i := 2) (by omega) (by omega)).trans p0_x2) (fun j hj hj' => by rw [kp_o hj (by omega), w370])
theorem kl_14 {T : Nat → Int} {L f t : Nat} {C R : MM} (h : LNP T L 1 f t C R) : OUT T L 1 14 f C R (sX7_readsLine_b18 79 1 ((1 : Nat) : Int) ((14 : Nat) : Int) C) (sX12_bookLine 359 126943972911973 (f : Int) R) := by
  obtain ⟨hE, hT, hF, hB, hH, hD, hg⟩ := h
  have hfu : sX7_isFull 79 ((14 : Nat) : Int) C = some (if C 91 4 = 40 then 1 else 0) := fu_e hH (by omega)
  have hB0 : 0 ≤ R 370 0 ∧ R 370 0 ≤ 40 := ⟨hB.1, hB.2.1⟩
  have hd : C 79 5 = 0 → BC C 91 (R 370) ∧ BV (R 370) := fun z => hD z
  obtain ⟨C0, Q, R0, f0, t0, k0, a1, a2, a3, aE, aT, aF, aff, aW, aV, a23, a371, aD⟩ := headF (s := ((1 : Nat) : Int)) (k := 14) (c := 0) (most := 40) hE hT hF (by omega) hfu (i01 _ _) (fun z => by rw [i1f, (hd z).1.1]) ⟨by omega, by omega⟩ ⟨by omega, by omega⟩ (by omega)
  generalize hrr : sX12_bookLine 359 126943972911973 (f : Int) R = rr
  generalize hrc : sX7_readsLine_b18 79 1 ((1 : Nat) : Int) ((14 : Nat) : Int) C = rc
  rw [a1] at hrc
  have hrc := hrc.symm
  unfold sX12_bookLine sX12_bookLine_b0 sX12_bookLine_b63 sX12_bookLine_b68 sX12_bookLine_b88 sX12_bookLine_b105 sX12_bookLine_b112 sX12_bookLine_b120 sX12_bookLine_b139 at hrr
  rw [show sX12_deedBy 126943972911973 = 2 by decide +kernel] at hrr
  simp only [if_neg (show ¬ wI 2 = (-1) by decide +kernel), if_neg (show ¬ wI 2 = 0 by decide +kernel), if_neg (show ¬ wI 2 = 1 by decide +kernel), if_pos (show wI 2 = 2 by decide +kernel), if_neg (show ¬ wI 2 = 3 by decide +kernel), if_neg (show ¬ wI 2 = 4 by decide +kernel), if_neg (show ¬ wI 2 = 5 by decide +kernel)] at hrr
  simp only [if_pos (show wI 0 = 0 by decide +kernel), if_neg (show ¬ wI 1 = 0 by decide +kernel)] at hrr
  rw [show sX12_full 359 0 40 (f : Int) R = some Q from a2, ob_s, a3, ob_s] at hrr
  rw [ob_s, g359_21] at hrr
  obtain ⟨R0w, eR0w⟩ : ∃ N : MM, N = mU R0 371 0 2 := ⟨_, rfl⟩
  rw [← eR0w] at hrr
  have wR0w : ∀ a, a ≠ 371 → R0w a = R0 a := fun a ha => by rw [eR0w]; exact mU_row _ _ ha
  have aEw := trE wR0w aE
  have aTw := trT wR0w aT
  have aFw := trF wR0w aF
  have gR0w : R0w 359 23 = R0 359 23 := by rw [wR0w 359 (by omega)]
  have WR0w := trW wR0w aV
  have x0R0w : R0w 371 0 = 2 := by rw [eR0w, mU_eq]
  rw [ob_s] at hrr
  obtain ⟨R0ww, eR0ww⟩ : ∃ N : MM, N = mU R0w 371 1 (-1) := ⟨_, rfl⟩
  rw [← eR0ww] at hrr
  have wR0ww : ∀ a, a ≠ 371 → R0ww a = R0w a := fun a ha => by rw [eR0ww]; exact mU_row _ _ ha
  have aEww := trE wR0ww aEw
  have aTww := trT wR0ww aTw
  have aFww := trF wR0ww aFw
  have gR0ww : R0ww 359 23 = R0w 359 23 := by rw [wR0ww 359 (by omega)]
  have WR0ww := trW wR0ww WR0w
  have x0R0ww : R0ww 371 0 = 2 := by rw [eR0ww, mU_ne _ _ (by omega)]; exact x0R0w
  have x1R0ww : R0ww 371 1 = (-1) := by rw [eR0ww, mU_eq]
  rw [ob_s] at hrr
  obtain ⟨R0www, eR0www⟩ : ∃ N : MM, N = mU R0ww 371 2 (-1) := ⟨_, rfl⟩
  rw [← eR0www] at hrr
  have wR0www : ∀ a, a ≠ 371 → R0www a = R0ww a := fun a ha => by rw [eR0www]; exact mU_row _ _ ha
  have aEwww := trE wR0www aEww
  have aTwww := trT wR0www aTww
  have aFwww := trF wR0www aFww
  have gR0www : R0www 359 23 = R0ww 359 23 := by rw [wR0www 359 (by omega)]
  have WR0www := trW wR0www WR0ww
  have x0R0www : R0www 371 0 = 2 := by rw [eR0www, mU_ne _ _ (by omega)]; exact x0R0ww
  have x1R0www : R0www 371 1 = (-1) := by rw [eR0www, mU_ne _ _ (by omega)]; exact x1R0ww
  have x2R0www : R0www 371 2 = (-1) := by rw [eR0www, mU_eq]
  rcases num2 aEwww aTwww aFwww (s := ((1 : Nat) : Int)) (k := 14) (i := 0) (r := 1) (lo := 0) (up := 7) (bu := (-1)) (by omega) (by decide) (by omega) (fun z => absurd rfl z) ⟨by omega, by omega⟩ ⟨by omega, by omega⟩ ⟨by omega, by omega⟩ (hok_p (by decide +kernel) (by decide +kernel) (by omega)) 99999 with ⟨x1, x2⟩ | ⟨C1, R1, f1, t1, k1, v0, x1, x2, p0_E, p0_T, p0_F, p0_o, p0_l, p0_A, p0_B, p0_c, p0_r, p0_0, p0_9, p0_g⟩
  · rw [show sX12_take 359 1 0 7 R0www = _ from take0 x2] at hrr
    exact outF (R' := mU R0www 359 17 (f0 : Int)) (hrc.trans x1) (hrr.symm.trans rfl) aTwww.1.1 (mU_eq _ _ _ _) hH aW (XB_u (WB_X WR0www))
  rw [show sX12_take 359 1 0 7 R0www = _ from take1 x2, ob_s] at hrr
  dsimp only at hrr
  rw [i10] at hrr
  have hrc := hrc.trans x1
  have p0_W := WA_t aW (WA_n p0_A)
  have p0_V := WB_t WR0www (WB_n p0_B)
  have p0_x0 : R1 371 0 = 2 := by rw [p0_B 371 0 (by omega) (by omega)]; exact x0R0www
  have p0_x2 : R1 371 2 = (-1) := by rw [p0_B 371 2 (by omega) (by omega)]; exact x2R0www
  rcases num2 p0_E p0_T p0_F (s := ((1 : Nat) : Int)) (k := 14) (i := 1) (r := 2) (lo := 0) (up := 9) (bu := (-1)) (by omega) (by decide) (by omega) (fun z => by rw [p0_c]; exact ⟨by omega, by omega⟩) ⟨by omega, by omega⟩ ⟨by omega, by omega⟩ ⟨by omega, by omega⟩ (hok_p (by decide +kernel) (by decide +kernel) (by omega)) 99998 with ⟨x1, x2⟩ | ⟨C2, R2, f2, t2, k2, v1, x1, x2, p1_E, p1_T, p1_F, p1_o, p1_l, p1_A, p1_B, p1_c, p1_r, p1_0, p1_9, p1_g⟩
  · rw [show sX12_take 359 2 0 9 R1 = _ from take0 x2] at hrr
    exact outF (R' := mU R1 359 17 (f1 : Int)) (hrc.trans x1) (hrr.symm.trans rfl) p0_T.1.1 (mU_eq _ _ _ _) hH p0_W (XB_u (WB_X p0_V))
  rw [show sX12_take 359 2 0 9 R1 = _ from take1 x2, ob_s] at hrr
  dsimp only at hrr
  rw [i10] at hrr
  have hrc := hrc.trans x1
  have p1_W := WA_t p0_W (WA_n p1_A)
  have p1_V := WB_t p0_V (WB_n p1_B)
  have p1_c0 : C2 114 0 = v0 := by rw [p1_A 114 0 (by omega) (by omega)]; exact p0_c
  have p1_r0 : R2 371 1 = v0 := by rw [p1_B 371 1 (by omega) (by omega)]; exact p0_r
  have p1_x0 : R2 371 0 = 2 := by rw [p1_B 371 0 (by omega) (by omega)]; exact p0_x0
  have hrc := hrc.trans (numE (k := 14) (by omega) 99997)
  have h5 : C2 79 5 = 0 → (C 79 5 = 0 ∧ R 370 0 ≠ 40) ∧ (0 ≤ v0 ∧ v0 ≤ 7 ∧ v0 ≠ -1) ∧ (0 ≤ v1 ∧ v1 ≤ 9 ∧ v1 ≠ -1) := by
    intro z
    obtain ⟨p1_q, p1_z⟩ := (gz p1_g).1 z
    obtain ⟨p0_q, p0_z⟩ := (gz p0_g).1 p1_z
    exact ⟨aD p0_z, p0_q, p1_q⟩
  have w370 : R2 370 = R 370 := p1_V.1 370 (by omega) (by omega)
  have w22 : R2 359 22 = R 359 22 := p1_V.2
  obtain ⟨n, hn⟩ := Int.eq_ofNat_of_zero_le hB0.1
  by_cases hmost : R 370 0 = 40
  · rw [show sX12_keep 359 0 1 3 40 R2 = _ from keepN (c := 0) (by omega) (by rw [w370]; exact hmost), ob_s] at hrr
    exact outG hrc hrr.symm p1_E p1_T p1_F (by omega) (fun a _ _ _ => rfl) (fun j _ => rfl) (RB_c hB w370 w22) p1_W (WB_X p1_V) hH (fun z => absurd hmost (h5 z).1.2)
  · have ek := keepB (R := R2) (c := 0) (n := n) (p := 1 + 3 * n) (w := 3) (fr := 1) (most := 40) (by omega) (by rw [w370]; exact hn) (by omega) (by omega) (by omega) (by omega)
    rw [show sX12_keep 359 0 1 3 40 R2 = _ from ek, ob_s] at hrr
    have hrow : ∀ a, a ≠ 370 → mU (kpR R2 (1 + 3 * n) 3) 370 0 ((n : Int) + 1) a = R2 a := fun a ha => kp_r ha
    refine outG hrc hrr.symm p1_E p1_T p1_F (by omega) (fun a _ h _ => hrow a h) (fun j _ => by rw [hrow 359 (by omega)]) ?_ p1_W (WB_X p1_V) hH (fun z C'' hrw h12 h114 => ?_)
    · refine ⟨by rw [kp_c]; omega, ?_, fun z => absurd z (by omega), ?_, ?_⟩
      · rw [kp_c]; show (n : Int) + 1 ≤ 40; omega
      · intro z; exact absurd z (by omega)
      · rw [hrow 359 (by omega), w22]; exact hB.2.2.2.2
    · obtain ⟨⟨z1, z2⟩, y0, y1⟩ := h5 z
      have hC0 : C'' 114 0 = v0 := by rw [h114]; exact p1_c0
      have hC1 : C'' 114 1 = v1 := by rw [h114]; exact p1_c
      have hd0 := hd z1
      have hdc : BC C'' 91 (R 370) := BC_c (fun j hj => hrw _ (by omega) (by omega)) hd0.1
      have hcn : C'' 91 4 = (n : Int) := (hdc.1).trans hn
      have hl := addL (C := C'') (q := 91) (m := 40) (n := n) (x := (((14 : Nat) : Int) - 12)) (y := v0) (z := v1) LG_91 (by rw [hrw _ (by omega) (by omega)]; exact hH.1.1) hcn (by omega) (by omega)
      refine ⟨aL C'' 91 n (((14 : Nat) : Int) - 12) v0 v1, ?_, ?_, HM_91 (HM_c hH (C' := C'') (fun a ha hb => hrw a (by omega) (by omega))) (by omega), fun a ha => aL_f (by omega), fun j hj => by rw [aL_f (by omega)]⟩
      · unfold sX7_keep sX7_keep_b0 sX7_keep_b48 sX7_keep_b63
        rw [show wI ((14 : Nat) : Int) = 14 by decide +kernel, if_pos (by omega), if_neg (by omega), if_pos (by omega), show (sT 1).getD ((14 : Int)).toNat 0 = 2 by decide +kernel, show wI 2 = 2 by decide +kernel, if_neg (by omega), if_neg (by omega), g79_1, g79_7, hC0, hC1, hl, ob_s]
      · show BC _ 91 _ ∧ BV _
        exact BC_a ⟨hdc, hd0.2⟩ hn (by omega) ⟨by omega, by omega, by omega, by omega, by omega, by omega, by omega, by omega⟩ kp_c (((kp_i (i := 0) (by omega) (by omega)).trans p1_x0).trans (by omega)) ((show 2 + 3 * n = 1 + 3 * n + 1 by omega) ▸ (kp_i (i := 1) (by omega) (by omega)).trans p1_r0) ((show 3 + 3 * n = 1 + 3 * n + 2 by omega) ▸ (kp_i (i := 2) (by omega) (by omega)).trans p1_r) (fun j hj hj' => by rw [kp_o hj (by omega), w370])
theorem kl_15 {T : Nat → Int} {L f t : Nat} {C R : MM} (h : LNP T L 1 f t C R) : OUT T L 1 15 f C R (sX7_readsLine_b18 79 1 ((1 : Nat) : Int) ((15 : Nat) : Int) C) (sX12_bookLine 359 30064 (f : Int) R) := by
  obtain ⟨hE, hT, hF, hB, hH, hD, hg⟩ := h
  have hfu : sX7_isFull 79 ((15 : Nat) : Int) C = some (if C 91 4 = 40 then 1 else 0) := fu_e hH (by omega)
  have hB0 : 0 ≤ R 370 0 ∧ R 370 0 ≤ 40 := ⟨hB.1, hB.2.1⟩
  have hd : C 79 5 = 0 → BC C 91 (R 370) ∧ BV (R 370) := fun z => hD z
  obtain ⟨C0, Q, R0, f0, t0, k0, a1, a2, a3, aE, aT, aF, aff, aW, aV, a23, a371, aD⟩ := headF (s := ((1 : Nat) : Int)) (k := 15) (c := 0) (most := 40) hE hT hF (by omega) hfu (i01 _ _) (fun z => by rw [i1f, (hd z).1.1]) ⟨by omega, by omega⟩ ⟨by omega, by omega⟩ (by omega)
  generalize hrr : sX12_bookLine 359 30064 (f : Int) R = rr
  generalize hrc : sX7_readsLine_b18 79 1 ((1 : Nat) : Int) ((15 : Nat) : Int) C = rc
  rw [a1] at hrc
  have hrc := hrc.symm
  unfold sX12_bookLine sX12_bookLine_b0 sX12_bookLine_b63 sX12_bookLine_b68 sX12_bookLine_b88 sX12_bookLine_b105 sX12_bookLine_b112 sX12_bookLine_b120 sX12_bookLine_b139 at hrr
  rw [show sX12_deedBy 30064 = 3 by decide +kernel] at hrr
  simp only [if_neg (show ¬ wI 3 = (-1) by decide +kernel), if_neg (show ¬ wI 3 = 0 by decide +kernel), if_neg (show ¬ wI 3 = 1 by decide +kernel), if_neg (show ¬ wI 3 = 2 by decide +kernel), if_pos (show wI 3 = 3 by decide +kernel), if_neg (show ¬ wI 3 = 4 by decide +kernel), if_neg (show ¬ wI 3 = 5 by decide +kernel)] at hrr
  simp only [if_pos (show wI 0 = 0 by decide +kernel), if_neg (show ¬ wI 1 = 0 by decide +kernel)] at hrr
  rw [show sX12_full 359 0 40 (f : Int) R = some Q from a2, ob_s, a3, ob_s] at hrr
  rw [ob_s, g359_21] at hrr
  obtain ⟨R0w, eR0w⟩ : ∃ N : MM, N = mU R0 371 0 3 := ⟨_, rfl⟩
  rw [← eR0w] at hrr
  have wR0w : ∀ a, a ≠ 371 → R0w a = R0 a := fun a ha => by rw [eR0w]; exact mU_row _ _ ha
  have aEw := trE wR0w aE
  have aTw := trT wR0w aT
  have aFw := trF wR0w aF
  have gR0w : R0w 359 23 = R0 359 23 := by rw [wR0w 359 (by omega)]
  have WR0w := trW wR0w aV
  have x0R0w : R0w 371 0 = 3 := by rw [eR0w, mU_eq]
  rw [ob_s] at hrr
  obtain ⟨R0ww, eR0ww⟩ : ∃ N : MM, N = mU R0w 371 1 (-1) := ⟨_, rfl⟩
  rw [← eR0ww] at hrr
  have wR0ww : ∀ a, a ≠ 371 → R0ww a = R0w a := fun a ha => by rw [eR0ww]; exact mU_row _ _ ha
  have aEww := trE wR0ww aEw
  have aTww := trT wR0ww aTw
  have aFww := trF wR0ww aFw
  have gR0ww : R0ww 359 23 = R0w 359 23 := by rw [wR0ww 359 (by omega)]
  have WR0ww := trW wR0ww WR0w
  have x0R0ww : R0ww 371 0 = 3 := by rw [eR0ww, mU_ne _ _ (by omega)]; exact x0R0w
  have x1R0ww : R0ww 371 1 = (-1) := by rw [eR0ww, mU_eq]
  rw [ob_s] at hrr
  obtain ⟨R0www, eR0www⟩ : ∃ N : MM, N = mU R0ww 371 2 (-1) := ⟨_, rfl⟩
  rw [← eR0www] at hrr
  have wR0www : ∀ a, a ≠ 371 → R0www a = R0ww a := fun a ha => by rw [eR0www]; exact mU_row _ _ ha
  have aEwww := trE wR0www aEww
  have aTwww := trT wR0www aTww
  have aFwww := trF wR0www aFww
  have gR0www : R0www 359 23 = R0ww 359 23 := by rw [wR0www 359 (by omega)]
  have WR0www := trW wR0www WR0ww
  have x0R0www : R0www 371 0 = 3 := by rw [eR0www, mU_ne _ _ (by omega)]; exact x0R0ww
  have x1R0www : R0www 371 1 = (-1) := by rw [eR0www, mU_ne _ _ (by omega)]; exact x1R0ww
  have x2R0www : R0www 371 2 = (-1) := by rw [eR0www, mU_eq]
  rcases num2 aEwww aTwww aFwww (s := ((1 : Nat) : Int)) (k := 15) (i := 0) (r := 1) (lo := 1) (up := 9) (bu := (-1)) (by omega) (by decide) (by omega) (fun z => absurd rfl z) ⟨by omega, by omega⟩ ⟨by omega, by omega⟩ ⟨by omega, by omega⟩ (hok_p (by decide +kernel) (by decide +kernel) (by omega)) 99999 with ⟨x1, x2⟩ | ⟨C1, R1, f1, t1, k1, v0, x1, x2, p0_E, p0_T, p0_F, p0_o, p0_l, p0_A, p0_B, p0_c, p0_r, p0_0, p0_9, p0_g⟩
  · rw [show sX12_take 359 1 1 9 R0www = _ from take0 x2] at hrr
    exact outF (R' := mU R0www 359 17 (f0 : Int)) (hrc.trans x1) (hrr.symm.trans rfl) aTwww.1.1 (mU_eq _ _ _ _) hH aW (XB_u (WB_X WR0www))
  rw [show sX12_take 359 1 1 9 R0www = _ from take1 x2, ob_s] at hrr
  dsimp only at hrr
  rw [i10] at hrr
  have hrc := hrc.trans x1
  have p0_W := WA_t aW (WA_n p0_A)
  have p0_V := WB_t WR0www (WB_n p0_B)
  have p0_x0 : R1 371 0 = 3 := by rw [p0_B 371 0 (by omega) (by omega)]; exact x0R0www
  have p0_x2 : R1 371 2 = (-1) := by rw [p0_B 371 2 (by omega) (by omega)]; exact x2R0www
  have hrc := hrc.trans (numE (k := 15) (by omega) 99998)
  have h5 : C1 79 5 = 0 → (C 79 5 = 0 ∧ R 370 0 ≠ 40) ∧ (1 ≤ v0 ∧ v0 ≤ 9 ∧ v0 ≠ -1) := by
    intro z
    obtain ⟨p0_q, p0_z⟩ := (gz p0_g).1 z
    exact ⟨aD p0_z, p0_q⟩
  have w370 : R1 370 = R 370 := p0_V.1 370 (by omega) (by omega)
  have w22 : R1 359 22 = R 359 22 := p0_V.2
  obtain ⟨n, hn⟩ := Int.eq_ofNat_of_zero_le hB0.1
  by_cases hmost : R 370 0 = 40
  · rw [show sX12_keep 359 0 1 3 40 R1 = _ from keepN (c := 0) (by omega) (by rw [w370]; exact hmost), ob_s] at hrr
    exact outG hrc hrr.symm p0_E p0_T p0_F (by omega) (fun a _ _ _ => rfl) (fun j _ => rfl) (RB_c hB w370 w22) p0_W (WB_X p0_V) hH (fun z => absurd hmost (h5 z).1.2)
  · have ek := keepB (R := R1) (c := 0) (n := n) (p := 1 + 3 * n) (w := 3) (fr := 1) (most := 40) (by omega) (by rw [w370]; exact hn) (by omega) (by omega) (by omega) (by omega)
    rw [show sX12_keep 359 0 1 3 40 R1 = _ from ek, ob_s] at hrr
    have hrow : ∀ a, a ≠ 370 → mU (kpR R1 (1 + 3 * n) 3) 370 0 ((n : Int) + 1) a = R1 a := fun a ha => kp_r ha
    refine outG hrc hrr.symm p0_E p0_T p0_F (by omega) (fun a _ h _ => hrow a h) (fun j _ => by rw [hrow 359 (by omega)]) ?_ p0_W (WB_X p0_V) hH (fun z C'' hrw h12 h114 => ?_)
    · refine ⟨by rw [kp_c]; omega, ?_, fun z => absurd z (by omega), ?_, ?_⟩
      · rw [kp_c]; show (n : Int) + 1 ≤ 40; omega
      · intro z; exact absurd z (by omega)
      · rw [hrow 359 (by omega), w22]; exact hB.2.2.2.2
    · obtain ⟨⟨z1, z2⟩, y0⟩ := h5 z
      have hC0 : C'' 114 0 = v0 := by rw [h114]; exact p0_c
      have hd0 := hd z1
      have hdc : BC C'' 91 (R 370) := BC_c (fun j hj => hrw _ (by omega) (by omega)) hd0.1
      have hcn : C'' 91 4 = (n : Int) := (hdc.1).trans hn
      have hl := addL (C := C'') (q := 91) (m := 40) (n := n) (x := (((15 : Nat) : Int) - 12)) (y := v0) (z := (-1)) LG_91 (by rw [hrw _ (by omega) (by omega)]; exact hH.1.1) hcn (by omega) (by omega)
      refine ⟨aL C'' 91 n (((15 : Nat) : Int) - 12) v0 (-1), ?_, ?_, HM_91 (HM_c hH (C' := C'') (fun a ha hb => hrw a (by omega) (by omega))) (by omega), fun a ha => aL_f (by omega), fun j hj => by rw [aL_f (by omega)]⟩
      · unfold sX7_keep sX7_keep_b0 sX7_keep_b48 sX7_keep_b63
        rw [show wI ((15 : Nat) : Int) = 15 by decide +kernel, if_pos (by omega), if_neg (by omega), if_pos (by omega), show (sT 1).getD ((15 : Int)).toNat 0 = 1 by decide +kernel, show wI 1 = 1 by decide +kernel, if_neg (by omega), if_pos (by omega), g79_1, g79_7, hC0, hl, ob_s]
      · show BC _ 91 _ ∧ BV _
        exact BC_a ⟨hdc, hd0.2⟩ hn (by omega) ⟨by omega, by omega, by omega, by omega, by omega, by omega, by omega, by omega⟩ kp_c (((kp_i (i := 0) (by omega) (by omega)).trans p0_x0).trans (by omega)) ((show 2 + 3 * n = 1 + 3 * n + 1 by omega) ▸ (kp_i (i := 1) (by omega) (by omega)).trans p0_r) ((show 3 + 3 * n = 1 + 3 * n + 2 by omega) ▸ (kp_i (i := 2) (by omega) (by omega)).trans p0_x2) (fun j hj hj' => by rw [kp_o hj (by omega), w370])
theorem kl_16 {T : Nat → Int} {L f t : Nat} {C R : MM} (h : LNP T L 1 f t C R) : OUT T L 1 16 f C R (sX7_readsLine_b18 79 1 ((1 : Nat) : Int) ((16 : Nat) : Int) C) (sX12_bookLine 359 1685026670 (f : Int) R) := by
  obtain ⟨hE, hT, hF, hB, hH, hD, hg⟩ := h
  have hfu : sX7_isFull 79 ((16 : Nat) : Int) C = some (if C 91 4 = 40 then 1 else 0) := fu_e hH (by omega)
  have hB0 : 0 ≤ R 370 0 ∧ R 370 0 ≤ 40 := ⟨hB.1, hB.2.1⟩
  have hd : C 79 5 = 0 → BC C 91 (R 370) ∧ BV (R 370) := fun z => hD z
  obtain ⟨C0, Q, R0, f0, t0, k0, a1, a2, a3, aE, aT, aF, aff, aW, aV, a23, a371, aD⟩ := headF (s := ((1 : Nat) : Int)) (k := 16) (c := 0) (most := 40) hE hT hF (by omega) hfu (i01 _ _) (fun z => by rw [i1f, (hd z).1.1]) ⟨by omega, by omega⟩ ⟨by omega, by omega⟩ (by omega)
  generalize hrr : sX12_bookLine 359 1685026670 (f : Int) R = rr
  generalize hrc : sX7_readsLine_b18 79 1 ((1 : Nat) : Int) ((16 : Nat) : Int) C = rc
  rw [a1] at hrc
  have hrc := hrc.symm
  unfold sX12_bookLine sX12_bookLine_b0 sX12_bookLine_b63 sX12_bookLine_b68 sX12_bookLine_b88 sX12_bookLine_b105 sX12_bookLine_b112 sX12_bookLine_b120 sX12_bookLine_b139 at hrr
  rw [show sX12_deedBy 1685026670 = 4 by decide +kernel] at hrr
  simp only [if_neg (show ¬ wI 4 = (-1) by decide +kernel), if_neg (show ¬ wI 4 = 0 by decide +kernel), if_neg (show ¬ wI 4 = 1 by decide +kernel), if_neg (show ¬ wI 4 = 2 by decide +kernel), if_neg (show ¬ wI 4 = 3 by decide +kernel), if_pos (show wI 4 = 4 by decide +kernel), if_neg (show ¬ wI 4 = 5 by decide +kernel)] at hrr
  simp only [if_pos (show wI 0 = 0 by decide +kernel), if_neg (show ¬ wI 1 = 0 by decide +kernel)] at hrr
  rw [show sX12_full 359 0 40 (f : Int) R = some Q from a2, ob_s, a3, ob_s] at hrr
  rw [ob_s, g359_21] at hrr
  obtain ⟨R0w, eR0w⟩ : ∃ N : MM, N = mU R0 371 0 4 := ⟨_, rfl⟩
  rw [← eR0w] at hrr
  have wR0w : ∀ a, a ≠ 371 → R0w a = R0 a := fun a ha => by rw [eR0w]; exact mU_row _ _ ha
  have aEw := trE wR0w aE
  have aTw := trT wR0w aT
  have aFw := trF wR0w aF
  have gR0w : R0w 359 23 = R0 359 23 := by rw [wR0w 359 (by omega)]
  have WR0w := trW wR0w aV
  have x0R0w : R0w 371 0 = 4 := by rw [eR0w, mU_eq]
  rw [ob_s] at hrr
  obtain ⟨R0ww, eR0ww⟩ : ∃ N : MM, N = mU R0w 371 1 (-1) := ⟨_, rfl⟩
  rw [← eR0ww] at hrr
  have wR0ww : ∀ a, a ≠ 371 → R0ww a = R0w a := fun a ha => by rw [eR0ww]; exact mU_row _ _ ha
  have aEww := trE wR0ww aEw
  have aTww := trT wR0ww aTw
  have aFww := trF wR0ww aFw
  have gR0ww : R0ww 359 23 = R0w 359 23 := by rw [wR0ww 359 (by omega)]
  have WR0ww := trW wR0ww WR0w
  have x0R0ww : R0ww 371 0 = 4 := by rw [eR0ww, mU_ne _ _ (by omega)]; exact x0R0w
  have x1R0ww : R0ww 371 1 = (-1) := by rw [eR0ww, mU_eq]
  rw [ob_s] at hrr
  obtain ⟨R0www, eR0www⟩ : ∃ N : MM, N = mU R0ww 371 2 (-1) := ⟨_, rfl⟩
  rw [← eR0www] at hrr
  have wR0www : ∀ a, a ≠ 371 → R0www a = R0ww a := fun a ha => by rw [eR0www]; exact mU_row _ _ ha
  have aEwww := trE wR0www aEww
  have aTwww := trT wR0www aTww
  have aFwww := trF wR0www aFww
  have gR0www : R0www 359 23 = R0ww 359 23 := by rw [wR0www 359 (by omega)]
  have WR0www := trW wR0www WR0ww
  have x0R0www : R0www 371 0 = 4 := by rw [eR0www, mU_ne _ _ (by omega)]; exact x0R0ww
  have x1R0www : R0www 371 1 = (-1) := by rw [eR0www, mU_ne _ _ (by omega)]; exact x1R0ww
  have x2R0www : R0www 371 2 = (-1) := by rw [eR0www, mU_eq]
  rcases num2 aEwww aTwww aFwww (s := ((1 : Nat) : Int)) (k := 16) (i := 0) (r := 1) (lo := 1) (up := 9) (bu := (-1)) (by omega) (by decide) (by omega) (fun z => absurd rfl z) ⟨by omega, by omega⟩ ⟨by omega, by omega⟩ ⟨by omega, by omega⟩ (hok_p (by decide +kernel) (by decide +kernel) (by omega)) 99999 with ⟨x1, x2⟩ | ⟨C1, R1, f1, t1, k1, v0, x1, x2, p0_E, p0_T, p0_F, p0_o, p0_l, p0_A, p0_B, p0_c, p0_r, p0_0, p0_9, p0_g⟩
  · rw [show sX12_take 359 1 1 9 R0www = _ from take0 x2] at hrr
    exact outF (R' := mU R0www 359 17 (f0 : Int)) (hrc.trans x1) (hrr.symm.trans rfl) aTwww.1.1 (mU_eq _ _ _ _) hH aW (XB_u (WB_X WR0www))
  rw [show sX12_take 359 1 1 9 R0www = _ from take1 x2, ob_s] at hrr
  dsimp only at hrr
  rw [i10] at hrr
  have hrc := hrc.trans x1
  have p0_W := WA_t aW (WA_n p0_A)
  have p0_V := WB_t WR0www (WB_n p0_B)
  have p0_x0 : R1 371 0 = 4 := by rw [p0_B 371 0 (by omega) (by omega)]; exact x0R0www
  have p0_x2 : R1 371 2 = (-1) := by rw [p0_B 371 2 (by omega) (by omega)]; exact x2R0www
  have hrc := hrc.trans (numE (k := 16) (by omega) 99998)
  have h5 : C1 79 5 = 0 → (C 79 5 = 0 ∧ R 370 0 ≠ 40) ∧ (1 ≤ v0 ∧ v0 ≤ 9 ∧ v0 ≠ -1) := by
    intro z
    obtain ⟨p0_q, p0_z⟩ := (gz p0_g).1 z
    exact ⟨aD p0_z, p0_q⟩
  have w370 : R1 370 = R 370 := p0_V.1 370 (by omega) (by omega)
  have w22 : R1 359 22 = R 359 22 := p0_V.2
  obtain ⟨n, hn⟩ := Int.eq_ofNat_of_zero_le hB0.1
  by_cases hmost : R 370 0 = 40
  · rw [show sX12_keep 359 0 1 3 40 R1 = _ from keepN (c := 0) (by omega) (by rw [w370]; exact hmost), ob_s] at hrr
    exact outG hrc hrr.symm p0_E p0_T p0_F (by omega) (fun a _ _ _ => rfl) (fun j _ => rfl) (RB_c hB w370 w22) p0_W (WB_X p0_V) hH (fun z => absurd hmost (h5 z).1.2)
  · have ek := keepB (R := R1) (c := 0) (n := n) (p := 1 + 3 * n) (w := 3) (fr := 1) (most := 40) (by omega) (by rw [w370]; exact hn) (by omega) (by omega) (by omega) (by omega)
    rw [show sX12_keep 359 0 1 3 40 R1 = _ from ek, ob_s] at hrr
    have hrow : ∀ a, a ≠ 370 → mU (kpR R1 (1 + 3 * n) 3) 370 0 ((n : Int) + 1) a = R1 a := fun a ha => kp_r ha
    refine outG hrc hrr.symm p0_E p0_T p0_F (by omega) (fun a _ h _ => hrow a h) (fun j _ => by rw [hrow 359 (by omega)]) ?_ p0_W (WB_X p0_V) hH (fun z C'' hrw h12 h114 => ?_)
    · refine ⟨by rw [kp_c]; omega, ?_, fun z => absurd z (by omega), ?_, ?_⟩
      · rw [kp_c]; show (n : Int) + 1 ≤ 40; omega
      · intro z; exact absurd z (by omega)
      · rw [hrow 359 (by omega), w22]; exact hB.2.2.2.2
    · obtain ⟨⟨z1, z2⟩, y0⟩ := h5 z
      have hC0 : C'' 114 0 = v0 := by rw [h114]; exact p0_c
      have hd0 := hd z1
      have hdc : BC C'' 91 (R 370) := BC_c (fun j hj => hrw _ (by omega) (by omega)) hd0.1
      have hcn : C'' 91 4 = (n : Int) := (hdc.1).trans hn
      have hl := addL (C := C'') (q := 91) (m := 40) (n := n) (x := (((16 : Nat) : Int) - 12)) (y := v0) (z := (-1)) LG_91 (by rw [hrw _ (by omega) (by omega)]; exact hH.1.1) hcn (by omega) (by omega)
      refine ⟨aL C'' 91 n (((16 : Nat) : Int) - 12) v0 (-1), ?_, ?_, HM_91 (HM_c hH (C' := C'') (fun a ha hb => hrw a (by omega) (by omega))) (by omega), fun a ha => aL_f (by omega), fun j hj => by rw [aL_f (by omega)]⟩
      · unfold sX7_keep sX7_keep_b0 sX7_keep_b48 sX7_keep_b63
        rw [show wI ((16 : Nat) : Int) = 16 by decide +kernel, if_pos (by omega), if_neg (by omega), if_pos (by omega), show (sT 1).getD ((16 : Int)).toNat 0 = 1 by decide +kernel, show wI 1 = 1 by decide +kernel, if_neg (by omega), if_pos (by omega), g79_1, g79_7, hC0, hl, ob_s]
      · show BC _ 91 _ ∧ BV _
        exact BC_a ⟨hdc, hd0.2⟩ hn (by omega) ⟨by omega, by omega, by omega, by omega, by omega, by omega, by omega, by omega⟩ kp_c (((kp_i (i := 0) (by omega) (by omega)).trans p0_x0).trans (by omega)) ((show 2 + 3 * n = 1 + 3 * n + 1 by omega) ▸ (kp_i (i := 1) (by omega) (by omega)).trans p0_r) ((show 3 + 3 * n = 1 + 3 * n + 2 by omega) ▸ (kp_i (i := 2) (by omega) (by omega)).trans p0_x2) (fun j hj hj' => by rw [kp_o hj (by omega), w370])
theorem kl_17 {T : Nat → Int} {L f t : Nat} {C R : MM} (h : LNP T L 1 f t C R) : OUT T L 1 17 f C R (sX7_readsLine_b18 79 1 ((1 : Nat) : Int) ((17 : Nat) : Int) C) (sX12_bookLine 359 6518132 (f : Int) R) := by
  obtain ⟨hE, hT, hF, hB, hH, hD, hg⟩ := h
  have hfu : sX7_isFull 79 ((17 : Nat) : Int) C = some (if C 91 4 = 40 then 1 else 0) := fu_e hH (by omega)
  have hB0 : 0 ≤ R 370 0 ∧ R 370 0 ≤ 40 := ⟨hB.1, hB.2.1⟩
  have hd : C 79 5 = 0 → BC C 91 (R 370) ∧ BV (R 370) := fun z => hD z
  obtain ⟨C0, Q, R0, f0, t0, k0, a1, a2, a3, aE, aT, aF, aff, aW, aV, a23, a371, aD⟩ := headF (s := ((1 : Nat) : Int)) (k := 17) (c := 0) (most := 40) hE hT hF (by omega) hfu (i01 _ _) (fun z => by rw [i1f, (hd z).1.1]) ⟨by omega, by omega⟩ ⟨by omega, by omega⟩ (by omega)
  generalize hrr : sX12_bookLine 359 6518132 (f : Int) R = rr
  generalize hrc : sX7_readsLine_b18 79 1 ((1 : Nat) : Int) ((17 : Nat) : Int) C = rc
  rw [a1] at hrc
  have hrc := hrc.symm
  unfold sX12_bookLine sX12_bookLine_b0 sX12_bookLine_b63 sX12_bookLine_b68 sX12_bookLine_b88 sX12_bookLine_b105 sX12_bookLine_b112 sX12_bookLine_b120 sX12_bookLine_b139 at hrr
  rw [show sX12_deedBy 6518132 = 5 by decide +kernel] at hrr
  simp only [if_neg (show ¬ wI 5 = (-1) by decide +kernel), if_neg (show ¬ wI 5 = 0 by decide +kernel), if_neg (show ¬ wI 5 = 1 by decide +kernel), if_neg (show ¬ wI 5 = 2 by decide +kernel), if_neg (show ¬ wI 5 = 3 by decide +kernel), if_neg (show ¬ wI 5 = 4 by decide +kernel), if_pos (show wI 5 = 5 by decide +kernel)] at hrr
  rw [show sX12_full 359 0 40 (f : Int) R = some Q from a2, ob_s, a3, ob_s] at hrr
  rw [ob_s, g359_21] at hrr
  obtain ⟨R0w, eR0w⟩ : ∃ N : MM, N = mU R0 371 0 5 := ⟨_, rfl⟩
  rw [← eR0w] at hrr
  have wR0w : ∀ a, a ≠ 371 → R0w a = R0 a := fun a ha => by rw [eR0w]; exact mU_row _ _ ha
  have aEw := trE wR0w aE
  have aTw := trT wR0w aT
  have aFw := trF wR0w aF
  have gR0w : R0w 359 23 = R0 359 23 := by rw [wR0w 359 (by omega)]
  have WR0w := trW wR0w aV
  have x0R0w : R0w 371 0 = 5 := by rw [eR0w, mU_eq]
  rw [ob_s] at hrr
  obtain ⟨R0ww, eR0ww⟩ : ∃ N : MM, N = mU R0w 371 1 (-1) := ⟨_, rfl⟩
  rw [← eR0ww] at hrr
  have wR0ww : ∀ a, a ≠ 371 → R0ww a = R0w a := fun a ha => by rw [eR0ww]; exact mU_row _ _ ha
  have aEww := trE wR0ww aEw
  have aTww := trT wR0ww aTw
  have aFww := trF wR0ww aFw
  have gR0ww : R0ww 359 23 = R0w 359 23 := by rw [wR0ww 359 (by omega)]
  have WR0ww := trW wR0ww WR0w
  have x0R0ww : R0ww 371 0 = 5 := by rw [eR0ww, mU_ne _ _ (by omega)]; exact x0R0w
  have x1R0ww : R0ww 371 1 = (-1) := by rw [eR0ww, mU_eq]
  rw [ob_s] at hrr
  obtain ⟨R0www, eR0www⟩ : ∃ N : MM, N = mU R0ww 371 2 (-1) := ⟨_, rfl⟩
  rw [← eR0www] at hrr
  have wR0www : ∀ a, a ≠ 371 → R0www a = R0ww a := fun a ha => by rw [eR0www]; exact mU_row _ _ ha
  have aEwww := trE wR0www aEww
  have aTwww := trT wR0www aTww
  have aFwww := trF wR0www aFww
  have gR0www : R0www 359 23 = R0ww 359 23 := by rw [wR0www 359 (by omega)]
  have WR0www := trW wR0www WR0ww
  have x0R0www : R0www 371 0 = 5 := by rw [eR0www, mU_ne _ _ (by omega)]; exact x0R0ww
  have x1R0www : R0www 371 1 = (-1) := by rw [eR0www, mU_ne _ _ (by omega)]; exact x1R0ww
  have x2R0www : R0www 371 2 = (-1) := by rw [eR0www, mU_eq]
  have hrc := hrc.trans (numE (k := 17) (by omega) 99999)
  have h5 : C0 79 5 = 0 → (C 79 5 = 0 ∧ R 370 0 ≠ 40) := by
    intro z
    exact aD z
  have w370 : R0www 370 = R 370 := WR0www.1 370 (by omega) (by omega)
  have w22 : R0www 359 22 = R 359 22 := WR0www.2
  obtain ⟨n, hn⟩ := Int.eq_ofNat_of_zero_le hB0.1
  by_cases hmost : R 370 0 = 40
  · rw [show sX12_keep 359 0 1 3 40 R0www = _ from keepN (c := 0) (by omega) (by rw [w370]; exact hmost), ob_s] at hrr
    exact outG hrc hrr.symm aEwww aTwww aFwww (by omega) (fun a _ _ _ => rfl) (fun j _ => rfl) (RB_c hB w370 w22) aW (WB_X WR0www) hH (fun z => absurd hmost (h5 z).2)
  · have ek := keepB (R := R0www) (c := 0) (n := n) (p := 1 + 3 * n) (w := 3) (fr := 1) (most := 40) (by omega) (by rw [w370]; exact hn) (by omega) (by omega) (by omega) (by omega)
    rw [show sX12_keep 359 0 1 3 40 R0www = _ from ek, ob_s] at hrr
    have hrow : ∀ a, a ≠ 370 → mU (kpR R0www (1 + 3 * n) 3) 370 0 ((n : Int) + 1) a = R0www a := fun a ha => kp_r ha
    refine outG hrc hrr.symm aEwww aTwww aFwww (by omega) (fun a _ h _ => hrow a h) (fun j _ => by rw [hrow 359 (by omega)]) ?_ aW (WB_X WR0www) hH (fun z C'' hrw h12 h114 => ?_)
    · refine ⟨by rw [kp_c]; omega, ?_, fun z => absurd z (by omega), ?_, ?_⟩
      · rw [kp_c]; show (n : Int) + 1 ≤ 40; omega
      · intro z; exact absurd z (by omega)
      · rw [hrow 359 (by omega), w22]; exact hB.2.2.2.2
    · obtain ⟨z1, z2⟩ := h5 z
      have hd0 := hd z1
      have hdc : BC C'' 91 (R 370) := BC_c (fun j hj => hrw _ (by omega) (by omega)) hd0.1
      have hcn : C'' 91 4 = (n : Int) := (hdc.1).trans hn
      have hl := addL (C := C'') (q := 91) (m := 40) (n := n) (x := (((17 : Nat) : Int) - 12)) (y := (-1)) (z := (-1)) LG_91 (by rw [hrw _ (by omega) (by omega)]; exact hH.1.1) hcn (by omega) (by omega)
      refine ⟨aL C'' 91 n (((17 : Nat) : Int) - 12) (-1) (-1), ?_, ?_, HM_91 (HM_c hH (C' := C'') (fun a ha hb => hrw a (by omega) (by omega))) (by omega), fun a ha => aL_f (by omega), fun j hj => by rw [aL_f (by omega)]⟩
      · unfold sX7_keep sX7_keep_b0 sX7_keep_b48 sX7_keep_b63
        rw [show wI ((17 : Nat) : Int) = 17 by decide +kernel, if_pos (by omega), if_neg (by omega), if_pos (by omega), show (sT 1).getD ((17 : Int)).toNat 0 = 0 by decide +kernel, show wI 0 = 0 by decide +kernel, if_pos (by omega), if_pos (by omega), g79_1, hl, ob_s]
      · show BC _ 91 _ ∧ BV _
        exact BC_a ⟨hdc, hd0.2⟩ hn (by omega) ⟨by omega, by omega, by omega, by omega, by omega, by omega, by omega, by omega⟩ kp_c (((kp_i (i := 0) (by omega) (by omega)).trans x0R0www).trans (by omega)) ((show 2 + 3 * n = 1 + 3 * n + 1 by omega) ▸ (kp_i (i := 1) (by omega) (by omega)).trans x1R0www) ((show 3 + 3 * n = 1 + 3 * n + 2 by omega) ▸ (kp_i (i := 2) (by omega) (by omega)).trans x2R0www) (fun j hj hj' => by rw [kp_o hj (by omega), w370])
