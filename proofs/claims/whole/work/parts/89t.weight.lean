theorem kl_5 {T : Nat → Int} {L f t : Nat} {C R : MM} (h : LNP T L 0 f t C R) : OUT T L 0 5 f C R (sX7_readsLine_b18 79 1 ((0 : Nat) : Int) ((5 : Nat) : Int) C) (sX12_partyLine 359 128047779833188 (f : Int) R) := by
  obtain ⟨hE, hT, hF, hB, hH, hD, hg⟩ := h
  have hfu : sX7_isFull 79 ((5 : Nat) : Int) C = some 0 := fu_e hH (by omega)
  obtain ⟨C0, R0, f0, t0, k0, a1, a3, aE, aT, aF, aff, aW, aV, a23, a371, aD⟩ := head0 (s := ((0 : Nat) : Int)) (k := 5) hE hT hF (by omega) hfu
  generalize hrr : sX12_partyLine 359 128047779833188 (f : Int) R = rr
  generalize hrc : sX7_readsLine_b18 79 1 ((0 : Nat) : Int) ((5 : Nat) : Int) C = rc
  rw [a1] at hrc
  have hrc := hrc.symm
  unfold sX12_partyLine sX12_partyLine_b0 sX12_partyLine_b30 sX12_partyLine_b35 sX12_partyLine_b85 sX12_partyLine_b119 sX12_partyLine_b163 sX12_partyLine_b177 sX12_weightLine sX12_weightLine_b0 sX12_weightLine_b13 sX12_weightLine_b54 at hrr
  rw [show sX12_plainOf 128047779833188 = (-1) by decide +kernel] at hrr
  simp only [if_neg (show ¬ wJ 128047779833188 = 1885434484 by decide +kernel), if_neg (show ¬ wJ 128047779833188 = 426953501796 by decide +kernel), if_neg (show ¬ wJ 128047779833188 = 1667591276 by decide +kernel), if_neg (show ¬ wJ 128047779833188 = 112641580559972 by decide +kernel), if_neg (show ¬ wJ 128047779833188 = 6713189 by decide +kernel), if_pos (show wJ 128047779833188 = 128047779833188 by decide +kernel), if_neg (show ¬ wJ 128047779833188 = 1919512167 by decide +kernel), if_neg (show ¬ wJ 128047779833188 = 422726039411 by decide +kernel), if_neg (show ¬ wJ 128047779833188 = 1818846836 by decide +kernel), if_neg (show ¬ wJ 128047779833188 = 126956639450227 by decide +kernel), if_neg (show ¬ wJ 128047779833188 = 27691674476046181 by decide +kernel), if_neg (show ¬ wJ 128047779833188 = 495874302827 by decide +kernel), if_pos (show wI (-1) = (-1) by decide +kernel), if_pos (show wI 0 = 0 by decide +kernel), if_neg (show ¬ wI 1 = 0 by decide +kernel)] at hrr
  rw [a3, ob_s] at hrr
  rcases num2 aE aT aF (s := ((0 : Nat) : Int)) (k := 5) (i := 0) (r := 0) (lo := 0) (up := 7) (bu := (-1)) (by omega) (by decide) (by omega) (fun z => absurd rfl z) ⟨by omega, by omega⟩ ⟨by omega, by omega⟩ ⟨by omega, by omega⟩ (hok_p (by decide +kernel) (by decide +kernel) (by omega)) 99999 with ⟨x1, x2⟩ | ⟨C1, R1, f1, t1, k1, v0, x1, x2, p0_E, p0_T, p0_F, p0_o, p0_l, p0_A, p0_B, p0_c, p0_r, p0_0, p0_9, p0_g⟩
  · rw [show sX12_take 359 0 0 7 R0 = _ from take0 x2] at hrr
    exact outF (R' := mU R0 359 17 (f0 : Int)) (hrc.trans x1) (hrr.symm.trans rfl) aT.1.1 (mU_eq _ _ _ _) hH aW (XB_u (WB_X aV))
  rw [show sX12_take 359 0 0 7 R0 = _ from take1 x2, ob_s] at hrr
  dsimp only at hrr
  rw [i10] at hrr
  have hrc := hrc.trans x1
  have p0_W := WA_t aW (WA_n p0_A)
  have p0_V := WB_t aV (WB_n p0_B)
  rcases num2 p0_E p0_T p0_F (s := ((0 : Nat) : Int)) (k := 5) (i := 1) (r := 1) (lo := 0) (up := 9) (bu := (-1)) (by omega) (by decide) (by omega) (fun z => by rw [p0_c]; exact ⟨by omega, by omega⟩) ⟨by omega, by omega⟩ ⟨by omega, by omega⟩ ⟨by omega, by omega⟩ (hok_p (by decide +kernel) (by decide +kernel) (by omega)) 99998 with ⟨x1, x2⟩ | ⟨C2, R2, f2, t2, k2, v1, x1, x2, p1_E, p1_T, p1_F, p1_o, p1_l, p1_A, p1_B, p1_c, p1_r, p1_0, p1_9, p1_g⟩
  · rw [show sX12_take 359 1 0 9 R1 = _ from take0 x2] at hrr
    exact outF (R' := mU R1 359 17 (f1 : Int)) (hrc.trans x1) (hrr.symm.trans rfl) p0_T.1.1 (mU_eq _ _ _ _) hH p0_W (XB_u (WB_X p0_V))
  rw [show sX12_take 359 1 0 9 R1 = _ from take1 x2, ob_s] at hrr
  dsimp only at hrr
  rw [i10] at hrr
  have hrc := hrc.trans x1
  have p1_W := WA_t p0_W (WA_n p1_A)
  have p1_V := WB_t p0_V (WB_n p1_B)
  have p1_c0 : C2 114 0 = v0 := by rw [p1_A 114 0 (by omega) (by omega)]; exact p0_c
  have p1_r0 : R2 371 0 = v0 := by rw [p1_B 371 0 (by omega) (by omega)]; exact p0_r
  have hrc := hrc.trans (numE (k := 5) (by omega) 99997)
  have h5 : C2 79 5 = 0 → (C 79 5 = 0) ∧ (0 ≤ v0 ∧ v0 ≤ 7 ∧ v0 ≠ -1) ∧ (0 ≤ v1 ∧ v1 ≤ 9 ∧ v1 ≠ -1) := by
    intro z
    obtain ⟨p1_q, p1_z⟩ := (gz p1_g).1 z
    obtain ⟨p0_q, p0_z⟩ := (gz p0_g).1 p1_z
    exact ⟨aD p0_z, p0_q, p1_q⟩
  have w370 : R2 370 = R 370 := p1_V.1 370 (by omega) (by omega)
  have w22 : R2 359 22 = R 359 22 := p1_V.2
  have hd : C 79 5 = 0 → (PC C 80 (R 370) ∧ PVd (R 370)) ∧ NR (C 79 12) (R 359 22) := fun z => hD z
  have hgood : R2 359 23 ≠ 0 → (0 ≤ v0 ∧ v0 ≤ 7 ∧ v0 ≠ -1) ∧ (0 ≤ v1 ∧ v1 ≤ 9 ∧ v1 ≠ -1) := by
    intro z
    obtain ⟨p1_q, p1_e⟩ := (gz p1_g).2 z
    rw [p1_e] at z
    obtain ⟨p0_q, p0_e⟩ := (gz p0_g).2 z
    rw [p0_e] at z
    exact ⟨p0_q, p1_q⟩
  have hone : C2 79 5 = 0 → R2 359 23 = 1 := by
    intro z
    have p1_e := gz3 p1_g z
    have p1_z := ((gz p1_g).1 z).2
    have p0_e := gz3 p0_g p1_z
    have p0_z := ((gz p0_g).1 p1_z).2
    rw [p1_e, p0_e, a23]; exact hg
  by_cases hz : wI (R2 359 23) = 0
  · rw [if_pos hz] at hrr
    exact outG (R' := R2) hrc (hrr.symm.trans rfl) p1_E p1_T p1_F (by omega) (fun a _ _ _ => rfl) (fun j _ => rfl) (RB_c hB w370 w22) p1_W (WB_X p1_V) hH (fun z => absurd (by rw [hone z] at hz; exact hz) (by decide +kernel))
  · obtain ⟨⟨u0, u0', u0''⟩, ⟨u1, u1', u1''⟩⟩ := hgood (fun z => hz (by rw [z]; exact wI_0))
    obtain ⟨c, hc⟩ := Int.eq_ofNat_of_zero_le u0
    have hcc : ((7 + c : Nat) : Int) = (7 + v0) := by omega
    have hw : wI (7 + R2 371 0) = ((7 + c : Nat) : Int) := by rw [p1_r0, wI_of (by omega) (by omega)]; omega
    have hin : (0 : Int) ≤ ((7 + c : Nat) : Int) ∧ ((7 + c : Nat) : Int) < 132 := ⟨by omega, by omega⟩
    rw [if_neg hz] at hrr
    simp only [g359_21, g359_20] at hrr
    rw [hw, if_pos hin, tN, p1_r, ob_s] at hrr
    refine outG (R' := mU R2 370 (7 + c) v1) hrc (hrr.symm.trans rfl) p1_E p1_T p1_F (by omega) (fun a _ h _ => mU_row _ _ h) (fun j _ => mU_ne _ _ (by omega)) ?_ p1_W (WB_X p1_V) hH (fun z C'' hrw h12 h114 => ?_)
    · unfold RB; rw [mU_ne (j := 0) _ _ (by omega), mU_ne (b := 359) _ _ (by omega), w370, w22]
      rw [mU_ne (j := 1) _ _ (by omega), w370]; exact hB
    · have z1 := (h5 z).1
      have hC0 : C'' 114 0 = v0 := by rw [h114]; exact p1_c0
      have hC1 : C'' 114 1 = v1 := by rw [h114]; exact p1_c
      refine ⟨mU C'' 89 v0.toNat v1, ?_, ?_, HM_u (HM_c hH (C' := C'') (fun a ha hb => hrw a (by omega) (by omega))) (by omega), fun a ha => mU_row _ _ (by omega), fun j hj => by rw [mU_row _ _ (by omega)]⟩
      · unfold sX7_keep sX7_keep_b0
        unfold sX7_keepOfParty sX7_keepOfParty_b0 sX5_setTurned sX5_setTurned_b0
        rw [show wI ((5 : Nat) : Int) = 5 by decide +kernel, if_neg (by omega), if_neg (by omega), if_neg (by omega), if_neg (by omega), if_neg (by omega), if_neg (by omega), if_pos rfl, g79_0, g79_7, hC0, hC1, show gR 80 10 = 89 from PG_80.2.2.2.2.2.2.2.2.1, wI_of (x := v0) (by omega) (by omega), if_neg (by omega), if_neg (by omega), if_pos (by omega), ob_s, ob_s, ob_s]
      · show (PC _ 80 _ ∧ PVd _) ∧ NR _ _
        rw [hc, tN]
        refine ⟨d_turn (by omega) ⟨by omega, by omega⟩ (fun j hj => by rw [mU_ne _ _ (by omega), w370]) (mU_eq _ _ _ _) ⟨PC_c (fun j hj => hrw _ (by omega) (by omega)) (hd z1).1.1, (hd z1).1.2⟩, ?_⟩
        rw [mU_row _ _ (by omega), mU_row _ _ (by omega), h12, w22]; exact (hd z1).2
theorem kl_6 {T : Nat → Int} {L f t : Nat} {C R : MM} (h : LNP T L 0 f t C R) : OUT T L 0 6 f C R (sX7_readsLine_b18 79 1 ((0 : Nat) : Int) ((6 : Nat) : Int) C) (sX12_partyLine 359 1919512167 (f : Int) R) := by
  obtain ⟨hE, hT, hF, hB, hH, hD, hg⟩ := h
  have hfu : sX7_isFull 79 ((6 : Nat) : Int) C = some 0 := fu_e hH (by omega)
  obtain ⟨C0, R0, f0, t0, k0, a1, a3, aE, aT, aF, aff, aW, aV, a23, a371, aD⟩ := head0 (s := ((0 : Nat) : Int)) (k := 6) hE hT hF (by omega) hfu
  generalize hrr : sX12_partyLine 359 1919512167 (f : Int) R = rr
  generalize hrc : sX7_readsLine_b18 79 1 ((0 : Nat) : Int) ((6 : Nat) : Int) C = rc
  rw [a1] at hrc
  have hrc := hrc.symm
  unfold sX12_partyLine sX12_partyLine_b0 sX12_partyLine_b30 sX12_partyLine_b35 sX12_partyLine_b85 sX12_partyLine_b119 sX12_partyLine_b163 sX12_partyLine_b177 sX12_weightLine sX12_weightLine_b0 sX12_weightLine_b13 sX12_weightLine_b54 at hrr
  rw [show sX12_plainOf 1919512167 = (-1) by decide +kernel] at hrr
  simp only [if_neg (show ¬ wJ 1919512167 = 1885434484 by decide +kernel), if_neg (show ¬ wJ 1919512167 = 426953501796 by decide +kernel), if_neg (show ¬ wJ 1919512167 = 1667591276 by decide +kernel), if_neg (show ¬ wJ 1919512167 = 112641580559972 by decide +kernel), if_neg (show ¬ wJ 1919512167 = 6713189 by decide +kernel), if_neg (show ¬ wJ 1919512167 = 128047779833188 by decide +kernel), if_pos (show wJ 1919512167 = 1919512167 by decide +kernel), if_neg (show ¬ wJ 1919512167 = 422726039411 by decide +kernel), if_neg (show ¬ wJ 1919512167 = 1818846836 by decide +kernel), if_neg (show ¬ wJ 1919512167 = 126956639450227 by decide +kernel), if_neg (show ¬ wJ 1919512167 = 27691674476046181 by decide +kernel), if_neg (show ¬ wJ 1919512167 = 495874302827 by decide +kernel), if_pos (show wI (-1) = (-1) by decide +kernel), if_pos (show wI 0 = 0 by decide +kernel), if_neg (show ¬ wI 1 = 0 by decide +kernel)] at hrr
  rw [a3, ob_s] at hrr
  rcases num2 aE aT aF (s := ((0 : Nat) : Int)) (k := 6) (i := 0) (r := 0) (lo := 0) (up := 2) (bu := (-1)) (by omega) (by decide) (by omega) (fun z => absurd rfl z) ⟨by omega, by omega⟩ ⟨by omega, by omega⟩ ⟨by omega, by omega⟩ (hok_p (by decide +kernel) (by decide +kernel) (by omega)) 99999 with ⟨x1, x2⟩ | ⟨C1, R1, f1, t1, k1, v0, x1, x2, p0_E, p0_T, p0_F, p0_o, p0_l, p0_A, p0_B, p0_c, p0_r, p0_0, p0_9, p0_g⟩
  · rw [show sX12_take 359 0 0 2 R0 = _ from take0 x2] at hrr
    exact outF (R' := mU R0 359 17 (f0 : Int)) (hrc.trans x1) (hrr.symm.trans rfl) aT.1.1 (mU_eq _ _ _ _) hH aW (XB_u (WB_X aV))
  rw [show sX12_take 359 0 0 2 R0 = _ from take1 x2, ob_s] at hrr
  dsimp only at hrr
  rw [i10] at hrr
  have hrc := hrc.trans x1
  have p0_W := WA_t aW (WA_n p0_A)
  have p0_V := WB_t aV (WB_n p0_B)
  rcases num2 p0_E p0_T p0_F (s := ((0 : Nat) : Int)) (k := 6) (i := 1) (r := 1) (lo := 0) (up := 9) (bu := (-1)) (by omega) (by decide) (by omega) (fun z => by rw [p0_c]; exact ⟨by omega, by omega⟩) ⟨by omega, by omega⟩ ⟨by omega, by omega⟩ ⟨by omega, by omega⟩ (hok_p (by decide +kernel) (by decide +kernel) (by omega)) 99998 with ⟨x1, x2⟩ | ⟨C2, R2, f2, t2, k2, v1, x1, x2, p1_E, p1_T, p1_F, p1_o, p1_l, p1_A, p1_B, p1_c, p1_r, p1_0, p1_9, p1_g⟩
  · rw [show sX12_take 359 1 0 9 R1 = _ from take0 x2] at hrr
    exact outF (R' := mU R1 359 17 (f1 : Int)) (hrc.trans x1) (hrr.symm.trans rfl) p0_T.1.1 (mU_eq _ _ _ _) hH p0_W (XB_u (WB_X p0_V))
  rw [show sX12_take 359 1 0 9 R1 = _ from take1 x2, ob_s] at hrr
  dsimp only at hrr
  rw [i10] at hrr
  have hrc := hrc.trans x1
  have p1_W := WA_t p0_W (WA_n p1_A)
  have p1_V := WB_t p0_V (WB_n p1_B)
  have p1_c0 : C2 114 0 = v0 := by rw [p1_A 114 0 (by omega) (by omega)]; exact p0_c
  have p1_r0 : R2 371 0 = v0 := by rw [p1_B 371 0 (by omega) (by omega)]; exact p0_r
  have hrc := hrc.trans (numE (k := 6) (by omega) 99997)
  have h5 : C2 79 5 = 0 → (C 79 5 = 0) ∧ (0 ≤ v0 ∧ v0 ≤ 2 ∧ v0 ≠ -1) ∧ (0 ≤ v1 ∧ v1 ≤ 9 ∧ v1 ≠ -1) := by
    intro z
    obtain ⟨p1_q, p1_z⟩ := (gz p1_g).1 z
    obtain ⟨p0_q, p0_z⟩ := (gz p0_g).1 p1_z
    exact ⟨aD p0_z, p0_q, p1_q⟩
  have w370 : R2 370 = R 370 := p1_V.1 370 (by omega) (by omega)
  have w22 : R2 359 22 = R 359 22 := p1_V.2
  have hd : C 79 5 = 0 → (PC C 80 (R 370) ∧ PVd (R 370)) ∧ NR (C 79 12) (R 359 22) := fun z => hD z
  have hgood : R2 359 23 ≠ 0 → (0 ≤ v0 ∧ v0 ≤ 2 ∧ v0 ≠ -1) ∧ (0 ≤ v1 ∧ v1 ≤ 9 ∧ v1 ≠ -1) := by
    intro z
    obtain ⟨p1_q, p1_e⟩ := (gz p1_g).2 z
    rw [p1_e] at z
    obtain ⟨p0_q, p0_e⟩ := (gz p0_g).2 z
    rw [p0_e] at z
    exact ⟨p0_q, p1_q⟩
  have hone : C2 79 5 = 0 → R2 359 23 = 1 := by
    intro z
    have p1_e := gz3 p1_g z
    have p1_z := ((gz p1_g).1 z).2
    have p0_e := gz3 p0_g p1_z
    have p0_z := ((gz p0_g).1 p1_z).2
    rw [p1_e, p0_e, a23]; exact hg
  by_cases hz : wI (R2 359 23) = 0
  · rw [if_pos hz] at hrr
    exact outG (R' := R2) hrc (hrr.symm.trans rfl) p1_E p1_T p1_F (by omega) (fun a _ _ _ => rfl) (fun j _ => rfl) (RB_c hB w370 w22) p1_W (WB_X p1_V) hH (fun z => absurd (by rw [hone z] at hz; exact hz) (by decide +kernel))
  · obtain ⟨⟨u0, u0', u0''⟩, ⟨u1, u1', u1''⟩⟩ := hgood (fun z => hz (by rw [z]; exact wI_0))
    obtain ⟨c, hc⟩ := Int.eq_ofNat_of_zero_le u0
    have hcc : ((15 + c : Nat) : Int) = (15 + v0) := by omega
    have hw : wI (15 + R2 371 0) = ((15 + c : Nat) : Int) := by rw [p1_r0, wI_of (by omega) (by omega)]; omega
    have hin : (0 : Int) ≤ ((15 + c : Nat) : Int) ∧ ((15 + c : Nat) : Int) < 132 := ⟨by omega, by omega⟩
    rw [if_neg hz] at hrr
    simp only [g359_21, g359_20] at hrr
    rw [hw, if_pos hin, tN, p1_r, ob_s] at hrr
    refine outG (R' := mU R2 370 (15 + c) v1) hrc (hrr.symm.trans rfl) p1_E p1_T p1_F (by omega) (fun a _ h _ => mU_row _ _ h) (fun j _ => mU_ne _ _ (by omega)) ?_ p1_W (WB_X p1_V) hH (fun z C'' hrw h12 h114 => ?_)
    · unfold RB; rw [mU_ne (j := 0) _ _ (by omega), mU_ne (b := 359) _ _ (by omega), w370, w22]
      rw [mU_ne (j := 1) _ _ (by omega), w370]; exact hB
    · have z1 := (h5 z).1
      have hC0 : C'' 114 0 = v0 := by rw [h114]; exact p1_c0
      have hC1 : C'' 114 1 = v1 := by rw [h114]; exact p1_c
      refine ⟨mU C'' 90 v0.toNat v1, ?_, ?_, HM_u (HM_c hH (C' := C'') (fun a ha hb => hrw a (by omega) (by omega))) (by omega), fun a ha => mU_row _ _ (by omega), fun j hj => by rw [mU_row _ _ (by omega)]⟩
      · unfold sX7_keep sX7_keep_b0
        unfold sX7_keepOfParty sX7_keepOfParty_b0 sX5_setRing sX5_setRing_b0
        rw [show wI ((6 : Nat) : Int) = 6 by decide +kernel, if_neg (by omega), if_neg (by omega), if_neg (by omega), if_neg (by omega), if_neg (by omega), if_neg (by omega), if_neg (by omega), if_pos rfl, g79_0, g79_7, hC0, hC1, show gR 80 11 = 90 from PG_80.2.2.2.2.2.2.2.2.2, wI_of (x := v0) (by omega) (by omega), if_neg (by omega), if_neg (by omega), if_pos (by omega), ob_s, ob_s, ob_s]
      · show (PC _ 80 _ ∧ PVd _) ∧ NR _ _
        rw [hc, tN]
        refine ⟨d_ring (by omega) ⟨by omega, by omega⟩ (fun j hj => by rw [mU_ne _ _ (by omega), w370]) (mU_eq _ _ _ _) ⟨PC_c (fun j hj => hrw _ (by omega) (by omega)) (hd z1).1.1, (hd z1).1.2⟩, ?_⟩
        rw [mU_row _ _ (by omega), mU_row _ _ (by omega), h12, w22]; exact (hd z1).2
