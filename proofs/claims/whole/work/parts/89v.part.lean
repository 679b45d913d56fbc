theorem kl_0 {T : Nat → Int} {L f t : Nat} {C R : MM} (h : LNP T L 0 f t C R) : OUT T L 0 0 f C R (sX7_readsLine_b18 79 1 ((0 : Nat) : Int) ((0 : Nat) : Int) C) (sX12_partyLine 359 1885434484 (f : Int) R) := by
  obtain ⟨hE, hT, hF, hB, hH, hD, hg⟩ := h
  have hfu : sX7_isFull 79 ((0 : Nat) : Int) C = some (if C 80 0 = 5 then 1 else 0) := fu_e hH (by omega)
  have hB0 : 0 ≤ R 370 0 ∧ R 370 0 ≤ 5 := ⟨hB.1, hB.2.1⟩
  have hd : C 79 5 = 0 → (PC C 80 (R 370) ∧ PVd (R 370)) ∧ NR (C 79 12) (R 359 22) := fun z => hD z
  obtain ⟨C0, Q, R0, f0, t0, k0, a1, a2, a3, aE, aT, aF, aff, aW, aV, a23, a371, aD⟩ := headF (s := ((0 : Nat) : Int)) (k := 0) (c := 0) (most := 5) hE hT hF (by omega) hfu (i01 _ _) (fun z => by rw [i1f, show C 80 0 = R 370 0 from (hd z).1.1.1.1]) ⟨by omega, by omega⟩ ⟨by omega, by omega⟩ (by omega)
  generalize hrr : sX12_partyLine 359 1885434484 (f : Int) R = rr
  generalize hrc : sX7_readsLine_b18 79 1 ((0 : Nat) : Int) ((0 : Nat) : Int) C = rc
  rw [a1] at hrc
  have hrc := hrc.symm
  unfold sX12_partyLine sX12_partyLine_b0 sX12_partyLine_b30 sX12_partyLine_b35 sX12_partyLine_b85 sX12_partyLine_b119 sX12_partyLine_b163 sX12_partyLine_b177 at hrr
  rw [show sX12_plainOf 1885434484 = (-1) by decide +kernel] at hrr
  simp only [if_pos (show wJ 1885434484 = 1885434484 by decide +kernel), if_neg (show ¬ wJ 1885434484 = 426953501796 by decide +kernel), if_neg (show ¬ wJ 1885434484 = 1667591276 by decide +kernel), if_neg (show ¬ wJ 1885434484 = 112641580559972 by decide +kernel), if_neg (show ¬ wJ 1885434484 = 6713189 by decide +kernel), if_neg (show ¬ wJ 1885434484 = 128047779833188 by decide +kernel), if_neg (show ¬ wJ 1885434484 = 1919512167 by decide +kernel), if_neg (show ¬ wJ 1885434484 = 422726039411 by decide +kernel), if_neg (show ¬ wJ 1885434484 = 1818846836 by decide +kernel), if_neg (show ¬ wJ 1885434484 = 126956639450227 by decide +kernel), if_neg (show ¬ wJ 1885434484 = 27691674476046181 by decide +kernel), if_neg (show ¬ wJ 1885434484 = 495874302827 by decide +kernel), if_pos (show wI (-1) = (-1) by decide +kernel), if_pos (show wI 0 = 0 by decide +kernel), if_neg (show ¬ wI 1 = 0 by decide +kernel)] at hrr
  rw [show sX12_full 359 0 5 (f : Int) R = some Q from a2, ob_s, a3, ob_s] at hrr
  rcases num2 aE aT aF (s := ((0 : Nat) : Int)) (k := 0) (i := 0) (r := 0) (lo := 0) (up := 9) (bu := (-1)) (by omega) (by decide) (by omega) (fun z => absurd rfl z) ⟨by omega, by omega⟩ ⟨by omega, by omega⟩ ⟨by omega, by omega⟩ (hok_p (by decide +kernel) (by decide +kernel) (by omega)) 99999 with ⟨x1, x2⟩ | ⟨C1, R1, f1, t1, k1, v0, x1, x2, p0_E, p0_T, p0_F, p0_o, p0_l, p0_A, p0_B, p0_c, p0_r, p0_0, p0_9, p0_g⟩
  · rw [show sX12_take 359 0 0 9 R0 = _ from take0 x2] at hrr
    exact outF (R' := mU R0 359 17 (f0 : Int)) (hrc.trans x1) (hrr.symm.trans rfl) aT.1.1 (mU_eq _ _ _ _) hH aW (XB_u (WB_X aV))
  rw [show sX12_take 359 0 0 9 R0 = _ from take1 x2, ob_s] at hrr
  dsimp only at hrr
  rw [i10] at hrr
  have hrc := hrc.trans x1
  have p0_W := WA_t aW (WA_n p0_A)
  have p0_V := WB_t aV (WB_n p0_B)
  rcases num2 p0_E p0_T p0_F (s := ((0 : Nat) : Int)) (k := 0) (i := 1) (r := 1) (lo := 1) (up := 30) (bu := (-1)) (by omega) (by decide) (by omega) (fun z => by rw [p0_c]; exact ⟨by omega, by omega⟩) ⟨by omega, by omega⟩ ⟨by omega, by omega⟩ ⟨by omega, by omega⟩ (hok_p (by decide +kernel) (by decide +kernel) (by omega)) 99998 with ⟨x1, x2⟩ | ⟨C2, R2, f2, t2, k2, v1, x1, x2, p1_E, p1_T, p1_F, p1_o, p1_l, p1_A, p1_B, p1_c, p1_r, p1_0, p1_9, p1_g⟩
  · rw [show sX12_take 359 1 1 30 R1 = _ from take0 x2] at hrr
    exact outF (R' := mU R1 359 17 (f1 : Int)) (hrc.trans x1) (hrr.symm.trans rfl) p0_T.1.1 (mU_eq _ _ _ _) hH p0_W (XB_u (WB_X p0_V))
  rw [show sX12_take 359 1 1 30 R1 = _ from take1 x2, ob_s] at hrr
  dsimp only at hrr
  rw [i10] at hrr
  have hrc := hrc.trans x1
  have p1_W := WA_t p0_W (WA_n p1_A)
  have p1_V := WB_t p0_V (WB_n p1_B)
  have p1_c0 : C2 114 0 = v0 := by rw [p1_A 114 0 (by omega) (by omega)]; exact p0_c
  have p1_r0 : R2 371 0 = v0 := by rw [p1_B 371 0 (by omega) (by omega)]; exact p0_r
  have hrc := hrc.trans (numE (k := 0) (by omega) 99997)
  have h5 : C2 79 5 = 0 → (C 79 5 = 0 ∧ R 370 0 ≠ 5) ∧ (0 ≤ v0 ∧ v0 ≤ 9 ∧ v0 ≠ -1) ∧ (1 ≤ v1 ∧ v1 ≤ 30 ∧ v1 ≠ -1) := by
    intro z
    obtain ⟨p1_q, p1_z⟩ := (gz p1_g).1 z
    obtain ⟨p0_q, p0_z⟩ := (gz p0_g).1 p1_z
    exact ⟨aD p0_z, p0_q, p1_q⟩
  have w370 : R2 370 = R 370 := p1_V.1 370 (by omega) (by omega)
  have w22 : R2 359 22 = R 359 22 := p1_V.2
  obtain ⟨n, hn⟩ := Int.eq_ofNat_of_zero_le hB0.1
  by_cases hmost : R 370 0 = 5
  · rw [show sX12_keep 359 0 18 2 5 R2 = _ from keepN (c := 0) (by omega) (by rw [w370]; exact hmost), ob_s] at hrr
    exact outG (R' := R2) hrc (hrr.symm.trans rfl) p1_E p1_T p1_F (by omega) (fun a _ _ _ => rfl) (fun j _ => rfl) (RB_c hB w370 w22) p1_W (WB_X p1_V) hH (fun z => absurd hmost (h5 z).1.2)
  · have ek := keepB (R := R2) (c := 0) (n := n) (p := 18 + 2 * n) (w := 2) (fr := 18) (most := 5) (by omega) (by rw [w370]; exact hn) (by omega) (by omega) (by omega) (by omega)
    rw [show sX12_keep 359 0 18 2 5 R2 = _ from ek, ob_s] at hrr
    have hrow : ∀ a, a ≠ 370 → mU (kpR R2 (18 + 2 * n) 2) 370 0 ((n : Int) + 1) a = R2 a := fun a ha => kp_r ha
    refine outG (R' := mU (kpR R2 (18 + 2 * n) 2) 370 0 ((n : Int) + 1)) hrc (hrr.symm.trans rfl) p1_E p1_T p1_F (by omega) (fun a _ h _ => hrow a h) (fun j _ => by rw [hrow 359 (by omega)]) ?_ p1_W (WB_X p1_V) hH (fun z C'' hrw h12 h114 => ?_)
    · unfold RB; rw [kp_c, kp_o (j := 1) (by omega) (by omega), w370, hrow 359 (by omega), w22]
      exact ⟨by omega, by show (n : Int) + 1 ≤ 5; omega, hB.2.2⟩
    · obtain ⟨⟨z1, z2⟩, y0, y1⟩ := h5 z
      have hC0 : C'' 114 0 = v0 := by rw [h114]; exact p1_c0
      have hC1 : C'' 114 1 = v1 := by rw [h114]; exact p1_c
      have hcn : C'' 80 0 = (n : Int) := by rw [hrw 80 (by omega) (by omega)]; exact ((hd z1).1.1.1.1).trans hn
      have hn4 : ¬ (5 : Int) ≤ (n : Int) := by omega
      have hn5 : (0 : Int) ≤ (n : Int) ∧ (n : Int) < 5 := ⟨by omega, by omega⟩
      have hwn : Unit → wI (n : Int) = (n : Int) := fun _ => wI_of (by omega) (by omega)
      refine ⟨mU (mU (mU C'' 81 n v0) 82 n v1) 80 0 ((n : Int) + 1), ?_, ?_, ?_, fun a ha => ?_, fun j hj => ?_⟩
      · unfold sX7_keep sX7_keep_b0 sX7_keepOfParty sX7_keepOfParty_b0 sX5_addPart sX5_addPart_b0
        rw [show wI ((0 : Nat) : Int) = 0 by decide +kernel, if_neg (by omega), if_pos rfl, g79_0, g79_7, hC0, hC1, hcn, hwn (), if_neg hn4, if_pos hn5, show gR 80 1 = 81 from PG_80.1, show gR 80 2 = 82 from PG_80.2.1, tN, ob_s, mU_row (b := 80) _ _ (by omega), hcn, hwn (), if_pos hn5, tN, ob_s, mU_row (b := 80) _ _ (by omega), mU_row (b := 80) _ _ (by omega), hcn, ob_s, ob_s, ob_s]
      · show (PC _ 80 _ ∧ PVd _) ∧ NR _ _
        refine ⟨d_part hn (by omega) ⟨by omega, by omega, by omega, by omega⟩ (fun j h1 h2 h3 => by rw [kp_o h1 (by omega), w370]) kp_c ((kp_i (i := 0) (by omega) (by omega)).trans p1_r0) ((show 19 + 2 * n = 18 + 2 * n + 1 by omega) ▸ (kp_i (i := 1) (by omega) (by omega)).trans p1_r) ⟨PC_c (fun j hj => hrw _ (by omega) (by omega)) (hd z1).1.1, (hd z1).1.2⟩, ?_⟩
        rw [mU_row _ _ (by omega), mU_row _ _ (by omega), mU_row _ _ (by omega), hrow 359 (by omega), h12, w22]; exact (hd z1).2
      · obtain ⟨⟨q1, q2, q3, q4, q5⟩, q6, q7, q8, q9, q10, q11, q12⟩ := (HM_c hH (C' := C'') (fun a ha hb => hrw a (by omega) (by omega)))
        have rr : ∀ a, 90 < a → mU (mU (mU C'' 81 n v0) 82 n v1) 80 0 ((n : Int) + 1) a = C'' a := fun a ha => by rw [mU_row _ _ (by omega), mU_row _ _ (by omega), mU_row _ _ (by omega)]
        unfold HM
        rw [rr 91 (by omega), rr 96 (by omega), rr 101 (by omega), rr 106 (by omega), rr 110 (by omega), mU_eq, mU_ne (b := 80) (j := 3) _ _ (by omega), mU_row (b := 80) _ _ (by omega), mU_row (b := 80) _ _ (by omega)]
        exact ⟨⟨q1, q2, q3, q4, q5⟩, by omega, q7, q8, q9, q10, q11, q12⟩
      · rw [mU_row _ _ (by omega), mU_row _ _ (by omega), mU_row _ _ (by omega)]
      · rw [mU_row _ _ (by omega), mU_row _ _ (by omega), mU_row _ _ (by omega)]
theorem kl_1 {T : Nat → Int} {L f t : Nat} {C R : MM} (h : LNP T L 0 f t C R) : OUT T L 0 1 f C R (sX7_readsLine_b18 79 1 ((0 : Nat) : Int) ((1 : Nat) : Int) C) (sX12_partyLine 359 426953501796 (f : Int) R) := by
  obtain ⟨hE, hT, hF, hB, hH, hD, hg⟩ := h
  have hfu : sX7_isFull 79 ((1 : Nat) : Int) C = some (if C 80 3 = 8 then 1 else 0) := fu_e hH (by omega)
  have hB0 : 0 ≤ R 370 1 ∧ R 370 1 ≤ 8 := hB.2.2.1 rfl
  have hd : C 79 5 = 0 → (PC C 80 (R 370) ∧ PVd (R 370)) ∧ NR (C 79 12) (R 359 22) := fun z => hD z
  obtain ⟨C0, Q, R0, f0, t0, k0, a1, a2, a3, aE, aT, aF, aff, aW, aV, a23, a371, aD⟩ := headF (s := ((0 : Nat) : Int)) (k := 1) (c := 1) (most := 8) hE hT hF (by omega) hfu (i01 _ _) (fun z => by rw [i1f, show C 80 3 = R 370 1 from (hd z).1.1.1.2.1]) ⟨by omega, by omega⟩ ⟨by omega, by omega⟩ (by omega)
  generalize hrr : sX12_partyLine 359 426953501796 (f : Int) R = rr
  generalize hrc : sX7_readsLine_b18 79 1 ((0 : Nat) : Int) ((1 : Nat) : Int) C = rc
  rw [a1] at hrc
  have hrc := hrc.symm
  unfold sX12_partyLine sX12_partyLine_b0 sX12_partyLine_b30 sX12_partyLine_b35 sX12_partyLine_b85 sX12_partyLine_b119 sX12_partyLine_b163 sX12_partyLine_b177 sX12_childLine sX12_childLine_b0 at hrr
  rw [show sX12_plainOf 426953501796 = (-1) by decide +kernel] at hrr
  simp only [if_neg (show ¬ wJ 426953501796 = 1885434484 by decide +kernel), if_pos (show wJ 426953501796 = 426953501796 by decide +kernel), if_neg (show ¬ wJ 426953501796 = 1667591276 by decide +kernel), if_neg (show ¬ wJ 426953501796 = 112641580559972 by decide +kernel), if_neg (show ¬ wJ 426953501796 = 6713189 by decide +kernel), if_neg (show ¬ wJ 426953501796 = 128047779833188 by decide +kernel), if_neg (show ¬ wJ 426953501796 = 1919512167 by decide +kernel), if_neg (show ¬ wJ 426953501796 = 422726039411 by decide +kernel), if_neg (show ¬ wJ 426953501796 = 1818846836 by decide +kernel), if_neg (show ¬ wJ 426953501796 = 126956639450227 by decide +kernel), if_neg (show ¬ wJ 426953501796 = 27691674476046181 by decide +kernel), if_neg (show ¬ wJ 426953501796 = 495874302827 by decide +kernel), if_pos (show wI (-1) = (-1) by decide +kernel), if_pos (show wI 0 = 0 by decide +kernel), if_neg (show ¬ wI 1 = 0 by decide +kernel)] at hrr
  rw [show sX12_full 359 1 8 (f : Int) R = some Q from a2, ob_s, a3, ob_s] at hrr
  rcases num2 aE aT aF (s := ((0 : Nat) : Int)) (k := 1) (i := 0) (r := 0) (lo := 3) (up := 15) (bu := (-1)) (by omega) (by decide) (by omega) (fun z => absurd rfl z) ⟨by omega, by omega⟩ ⟨by omega, by omega⟩ ⟨by omega, by omega⟩ (hok_p (by decide +kernel) (by decide +kernel) (by omega)) 99999 with ⟨x1, x2⟩ | ⟨C1, R1, f1, t1, k1, v0, x1, x2, p0_E, p0_T, p0_F, p0_o, p0_l, p0_A, p0_B, p0_c, p0_r, p0_0, p0_9, p0_g⟩
  · rw [show sX12_take 359 0 3 15 R0 = _ from take0 x2] at hrr
    exact outF (R' := mU R0 359 17 (f0 : Int)) (hrc.trans x1) (hrr.symm.trans rfl) aT.1.1 (mU_eq _ _ _ _) hH aW (XB_u (WB_X aV))
  rw [show sX12_take 359 0 3 15 R0 = _ from take1 x2, ob_s] at hrr
  dsimp only at hrr
  rw [i10] at hrr
  have hrc := hrc.trans x1
  have p0_W := WA_t aW (WA_n p0_A)
  have p0_V := WB_t aV (WB_n p0_B)
  rcases num2 p0_E p0_T p0_F (s := ((0 : Nat) : Int)) (k := 1) (i := 1) (r := 1) (lo := 1) (up := 9) (bu := (-1)) (by omega) (by decide) (by omega) (fun z => by rw [p0_c]; exact ⟨by omega, by omega⟩) ⟨by omega, by omega⟩ ⟨by omega, by omega⟩ ⟨by omega, by omega⟩ (hok_p (by decide +kernel) (by decide +kernel) (by omega)) 99998 with ⟨x1, x2⟩ | ⟨C2, R2, f2, t2, k2, v1, x1, x2, p1_E, p1_T, p1_F, p1_o, p1_l, p1_A, p1_B, p1_c, p1_r, p1_0, p1_9, p1_g⟩
  · rw [show sX12_take 359 1 1 9 R1 = _ from take0 x2] at hrr
    exact outF (R' := mU R1 359 17 (f1 : Int)) (hrc.trans x1) (hrr.symm.trans rfl) p0_T.1.1 (mU_eq _ _ _ _) hH p0_W (XB_u (WB_X p0_V))
  rw [show sX12_take 359 1 1 9 R1 = _ from take1 x2, ob_s] at hrr
  dsimp only at hrr
  rw [i10] at hrr
  have hrc := hrc.trans x1
  have p1_W := WA_t p0_W (WA_n p1_A)
  have p1_V := WB_t p0_V (WB_n p1_B)
  have p1_c0 : C2 114 0 = v0 := by rw [p1_A 114 0 (by omega) (by omega)]; exact p0_c
  have p1_r0 : R2 371 0 = v0 := by rw [p1_B 371 0 (by omega) (by omega)]; exact p0_r
  rcases num2 p1_E p1_T p1_F (s := ((0 : Nat) : Int)) (k := 1) (i := 2) (r := 2) (lo := 0) (up := 10) (bu := (-1)) (by omega) (by decide) (by omega) (fun z => by rw [p1_c0]; exact ⟨by omega, by omega⟩) ⟨by omega, by omega⟩ ⟨by omega, by omega⟩ ⟨by omega, by omega⟩ (hok_p (by decide +kernel) (by decide +kernel) (by omega)) 99997 with ⟨x1, x2⟩ | ⟨C3, R3, f3, t3, k3, v2, x1, x2, p2_E, p2_T, p2_F, p2_o, p2_l, p2_A, p2_B, p2_c, p2_r, p2_0, p2_9, p2_g⟩
  · rw [show sX12_take 359 2 0 10 R2 = _ from take0 x2] at hrr
    exact outF (R' := mU R2 359 17 (f2 : Int)) (hrc.trans x1) (hrr.symm.trans rfl) p1_T.1.1 (mU_eq _ _ _ _) hH p1_W (XB_u (WB_X p1_V))
  rw [show sX12_take 359 2 0 10 R2 = _ from take1 x2, ob_s] at hrr
  dsimp only at hrr
  rw [i10] at hrr
  have hrc := hrc.trans x1
  have p2_W := WA_t p1_W (WA_n p2_A)
  have p2_V := WB_t p1_V (WB_n p2_B)
  have p2_c0 : C3 114 0 = v0 := by rw [p2_A 114 0 (by omega) (by omega)]; exact p1_c0
  have p2_r0 : R3 371 0 = v0 := by rw [p2_B 371 0 (by omega) (by omega)]; exact p1_r0
  have p2_c1 : C3 114 1 = v1 := by rw [p2_A 114 1 (by omega) (by omega)]; exact p1_c
  have p2_r1 : R3 371 1 = v1 := by rw [p2_B 371 1 (by omega) (by omega)]; exact p1_r
  rcases num2 p2_E p2_T p2_F (s := ((0 : Nat) : Int)) (k := 1) (i := 3) (r := 3) (lo := 0) (up := 9) (bu := (-1)) (by omega) (by decide) (by omega) (fun z => by rw [p2_c0]; exact ⟨by omega, by omega⟩) ⟨by omega, by omega⟩ ⟨by omega, by omega⟩ ⟨by omega, by omega⟩ (hok_p (by decide +kernel) (by decide +kernel) (by omega)) 99996 with ⟨x1, x2⟩ | ⟨C4, R4, f4, t4, k4, v3, x1, x2, p3_E, p3_T, p3_F, p3_o, p3_l, p3_A, p3_B, p3_c, p3_r, p3_0, p3_9, p3_g⟩
  · rw [show sX12_take 359 3 0 9 R3 = _ from take0 x2] at hrr
    exact outF (R' := mU R3 359 17 (f3 : Int)) (hrc.trans x1) (hrr.symm.trans rfl) p2_T.1.1 (mU_eq _ _ _ _) hH p2_W (XB_u (WB_X p2_V))
  rw [show sX12_take 359 3 0 9 R3 = _ from take1 x2, ob_s] at hrr
  dsimp only at hrr
  rw [i10] at hrr
  have hrc := hrc.trans x1
  have p3_W := WA_t p2_W (WA_n p3_A)
  have p3_V := WB_t p2_V (WB_n p3_B)
  have p3_c0 : C4 114 0 = v0 := by rw [p3_A 114 0 (by omega) (by omega)]; exact p2_c0
  have p3_r0 : R4 371 0 = v0 := by rw [p3_B 371 0 (by omega) (by omega)]; exact p2_r0
  have p3_c1 : C4 114 1 = v1 := by rw [p3_A 114 1 (by omega) (by omega)]; exact p2_c1
  have p3_r1 : R4 371 1 = v1 := by rw [p3_B 371 1 (by omega) (by omega)]; exact p2_r1
  have p3_c2 : C4 114 2 = v2 := by rw [p3_A 114 2 (by omega) (by omega)]; exact p2_c
  have p3_r2 : R4 371 2 = v2 := by rw [p3_B 371 2 (by omega) (by omega)]; exact p2_r
  have hrc := hrc.trans (numE (k := 1) (by omega) 99995)
  have h5 : C4 79 5 = 0 → (C 79 5 = 0 ∧ R 370 1 ≠ 8) ∧ (3 ≤ v0 ∧ v0 ≤ 15 ∧ v0 ≠ -1) ∧ (1 ≤ v1 ∧ v1 ≤ 9 ∧ v1 ≠ -1) ∧ (0 ≤ v2 ∧ v2 ≤ 10 ∧ v2 ≠ -1) ∧ (0 ≤ v3 ∧ v3 ≤ 9 ∧ v3 ≠ -1) := by
    intro z
    obtain ⟨p3_q, p3_z⟩ := (gz p3_g).1 z
    obtain ⟨p2_q, p2_z⟩ := (gz p2_g).1 p3_z
    obtain ⟨p1_q, p1_z⟩ := (gz p1_g).1 p2_z
    obtain ⟨p0_q, p0_z⟩ := (gz p0_g).1 p1_z
    exact ⟨aD p0_z, p0_q, p1_q, p2_q, p3_q⟩
  have w370 : R4 370 = R 370 := p3_V.1 370 (by omega) (by omega)
  have w22 : R4 359 22 = R 359 22 := p3_V.2
  obtain ⟨n, hn⟩ := Int.eq_ofNat_of_zero_le hB0.1
  have hwn : Unit → wI (n : Int) = (n : Int) := fun _ => wI_of (by omega) (by omega)
  simp only [g359_20] at hrr
  rw [w370, hn, hwn ()] at hrr
  by_cases hmost : R 370 1 = 8
  · rw [if_pos (show (8 : Int) ≤ (n : Int) by omega)] at hrr
    exact outG (R' := R4) hrc (hrr.symm.trans rfl) p3_E p3_T p3_F (by omega) (fun a _ _ _ => rfl) (fun j _ => rfl) (RB_c hB w370 w22) p3_W (WB_X p3_V) hH (fun z => absurd hmost (h5 z).1.2)
  · rw [if_neg (show ¬ (8 : Int) ≤ (n : Int) by omega), childB (R := R4) (n := n) (by rw [w370]; exact hn) (by omega)] at hrr
    have hrow : ∀ a, a ≠ 370 → mU (kpR R4 (28 + 13 * n) 4) 370 1 ((n : Int) + 1) a = R4 a := fun a ha => kp_r ha
    refine outG (R' := mU (kpR R4 (28 + 13 * n) 4) 370 1 ((n : Int) + 1)) hrc (hrr.symm.trans rfl) p3_E p3_T p3_F (by omega) (fun a _ h _ => hrow a h) (fun j _ => by rw [hrow 359 (by omega)]) ?_ p3_W (WB_X p3_V) hH (fun z C'' hrw h12 h114 => ?_)
    · unfold RB; rw [kp_c, kp_o (j := 0) (by omega) (by omega), w370, hrow 359 (by omega), w22]
      exact ⟨hB.1, hB.2.1, fun _ => ⟨by omega, by omega⟩, fun z => absurd z (by omega), hB.2.2.2.2⟩
    · obtain ⟨⟨z1, z2⟩, y0, y1, y2, y3⟩ := h5 z
      have hC0 : C'' 114 0 = v0 := by rw [h114]; exact p3_c0
      have hC1 : C'' 114 1 = v1 := by rw [h114]; exact p3_c1
      have hC2 : C'' 114 2 = v2 := by rw [h114]; exact p3_c2
      have hC3 : C'' 114 3 = v3 := by rw [h114]; exact p3_c
      have hcn : C'' 80 3 = (n : Int) := by rw [hrw 80 (by omega) (by omega)]; exact ((hd z1).1.1.1.2.1).trans hn
      have hn4 : ¬ (8 : Int) ≤ (n : Int) := by omega
      have hn5 : (0 : Int) ≤ (n : Int) ∧ (n : Int) < 8 := ⟨by omega, by omega⟩
      refine ⟨mU (mU (mU (mU (mU C'' 83 n v0) 84 n v1) 85 n v2) 86 n v3) 80 3 ((n : Int) + 1), ?_, ?_, ?_, fun a ha => ?_, fun j hj => ?_⟩
      · unfold sX7_keep sX7_keep_b0 sX7_keepOfParty sX7_keepOfParty_b0 sX5_addChild sX5_addChild_b0
        rw [show wI ((1 : Nat) : Int) = 1 by decide +kernel, if_neg (by omega), if_neg (by omega), if_pos rfl, g79_0, g79_7, hC0, hC1, hC2, hC3, hcn, hwn (), if_neg hn4, if_pos hn5, show gR 80 4 = 83 from PG_80.2.2.1, show gR 80 5 = 84 from PG_80.2.2.2.1, show gR 80 6 = 85 from PG_80.2.2.2.2.1, show gR 80 7 = 86 from PG_80.2.2.2.2.2.1, tN, ob_s, mU_row (b := 80) _ _ (by omega), hcn, hwn (), if_pos hn5, tN, ob_s, mU_row (b := 80) _ _ (by omega), mU_row (b := 80) _ _ (by omega), hcn, hwn (), if_pos hn5, tN, ob_s, mU_row (b := 80) _ _ (by omega), mU_row (b := 80) _ _ (by omega), mU_row (b := 80) _ _ (by omega), hcn, hwn (), if_pos hn5, tN, ob_s, mU_row (b := 80) _ _ (by omega), mU_row (b := 80) _ _ (by omega), mU_row (b := 80) _ _ (by omega), mU_row (b := 80) _ _ (by omega), hcn, ob_s, ob_s, ob_s]
      · show (PC _ 80 _ ∧ PVd _) ∧ NR _ _
        refine ⟨d_child hn (by omega) ⟨⟨by omega, by omega⟩, ⟨by omega, by omega⟩, ⟨by omega, by omega⟩, by omega, by omega⟩ (fun j h1 h2 h3 h4 h5 => by rw [kp_o h1 (by omega), w370]) kp_c ((kp_i (i := 0) (by omega) (by omega)).trans p3_r0) ((show 29 + 13 * n = 28 + 13 * n + 1 by omega) ▸ (kp_i (i := 1) (by omega) (by omega)).trans p3_r1) ((show 30 + 13 * n = 28 + 13 * n + 2 by omega) ▸ (kp_i (i := 2) (by omega) (by omega)).trans p3_r2) ((show 31 + 13 * n = 28 + 13 * n + 3 by omega) ▸ (kp_i (i := 3) (by omega) (by omega)).trans p3_r) ⟨PC_c (fun j hj => hrw _ (by omega) (by omega)) (hd z1).1.1, (hd z1).1.2⟩, ?_⟩
        rw [mU_row _ _ (by omega), mU_row _ _ (by omega), mU_row _ _ (by omega), mU_row _ _ (by omega), mU_row _ _ (by omega), hrow 359 (by omega), h12, w22]; exact (hd z1).2
      · obtain ⟨⟨q1, q2, q3, q4, q5⟩, q6, q7, q8, q9, q10, q11, q12⟩ := (HM_c hH (C' := C'') (fun a ha hb => hrw a (by omega) (by omega)))
        have rr : ∀ a, 90 < a → mU (mU (mU (mU (mU C'' 83 n v0) 84 n v1) 85 n v2) 86 n v3) 80 3 ((n : Int) + 1) a = C'' a := fun a ha => by rw [mU_row _ _ (by omega), mU_row _ _ (by omega), mU_row _ _ (by omega), mU_row _ _ (by omega), mU_row _ _ (by omega)]
        unfold HM
        rw [rr 91 (by omega), rr 96 (by omega), rr 101 (by omega), rr 106 (by omega), rr 110 (by omega), mU_eq, mU_ne (b := 80) (j := 0) _ _ (by omega), mU_row (b := 80) _ _ (by omega), mU_row (b := 80) _ _ (by omega), mU_row (b := 80) _ _ (by omega), mU_row (b := 80) _ _ (by omega)]
        exact ⟨⟨q1, q2, q3, q4, q5⟩, q6, by omega, q8, q9, q10, q11, q12⟩
      · rw [mU_row _ _ (by omega), mU_row _ _ (by omega), mU_row _ _ (by omega), mU_row _ _ (by omega), mU_row _ _ (by omega)]
      · rw [mU_row _ _ (by omega), mU_row _ _ (by omega), mU_row _ _ (by omega), mU_row _ _ (by omega), mU_row _ _ (by omega)]
