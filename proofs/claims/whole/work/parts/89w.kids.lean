theorem hok_f {C : MM} {k : Nat} {lo up w : Int} (ha : (sT 2).getD (4 * k + 1) 0 = lo) (hb : (sT 3).getD (4 * k + 1) 0 = up) (hn : k = 3 ∨ k = 4) (hc : C 114 0 = w) : ∀ v : Int, 0 ≤ v → v ≤ 99 → (okC (mU C 114 1 v) k 1 ↔ (lo ≤ v ∧ v ≤ up ∧ v ≠ w)) := by
  intro v v1 v2
  unfold okC
  rw [ha, hb, mU_eq, mU_ne _ _ (by omega), hc]
  clear ha hb
  constructor
  · intro h; exact ⟨h.1, h.2.1, h.2.2 hn rfl⟩
  · intro h; exact ⟨h.1, h.2.1, fun _ _ => h.2.2⟩
theorem kl_2 {T : Nat → Int} {L f t : Nat} {C R : MM} (h : LNP T L 0 f t C R) : OUT T L 0 2 f C R (sX7_readsLine_b18 79 1 ((0 : Nat) : Int) ((2 : Nat) : Int) C) (sX12_partyLine 359 1667591276 (f : Int) R) := by
  obtain ⟨hE, hT, hF, hB, hH, hD, hg⟩ := h
  have hfu : sX7_isFull 79 ((2 : Nat) : Int) C = some 0 := fu_e hH (by omega)
  obtain ⟨C0, R0, f0, t0, k0, a1, a3, aE, aT, aF, aff, aW, aV, a23, a371, aD⟩ := head0 (s := ((0 : Nat) : Int)) (k := 2) hE hT hF (by omega) hfu
  generalize hrr : sX12_partyLine 359 1667591276 (f : Int) R = rr
  generalize hrc : sX7_readsLine_b18 79 1 ((0 : Nat) : Int) ((2 : Nat) : Int) C = rc
  rw [a1] at hrc
  have hrc := hrc.symm
  unfold sX12_partyLine sX12_partyLine_b0 sX12_partyLine_b30 sX12_partyLine_b35 sX12_partyLine_b85 sX12_partyLine_b119 sX12_partyLine_b163 sX12_partyLine_b177 sX12_ofChildren sX12_ofChildren_b0 sX12_ofChildren_b127 at hrr
  rw [show sX12_plainOf 1667591276 = (-1) by decide +kernel] at hrr
  simp only [if_neg (show ¬ wJ 1667591276 = 1885434484 by decide +kernel), if_neg (show ¬ wJ 1667591276 = 426953501796 by decide +kernel), if_pos (show wJ 1667591276 = 1667591276 by decide +kernel), if_neg (show ¬ wJ 1667591276 = 112641580559972 by decide +kernel), if_neg (show ¬ wJ 1667591276 = 6713189 by decide +kernel), if_neg (show ¬ wJ 1667591276 = 128047779833188 by decide +kernel), if_neg (show ¬ wJ 1667591276 = 1919512167 by decide +kernel), if_neg (show ¬ wJ 1667591276 = 422726039411 by decide +kernel), if_neg (show ¬ wJ 1667591276 = 1818846836 by decide +kernel), if_neg (show ¬ wJ 1667591276 = 126956639450227 by decide +kernel), if_neg (show ¬ wJ 1667591276 = 27691674476046181 by decide +kernel), if_neg (show ¬ wJ 1667591276 = 495874302827 by decide +kernel), if_pos (show wI (-1) = (-1) by decide +kernel), if_pos (show wI 0 = 0 by decide +kernel), if_neg (show ¬ wI 1 = 0 by decide +kernel)] at hrr
  rw [a3, ob_s] at hrr
  have hfar := hB.2.2.2.2
  rcases num2 aE aT aF (s := ((0 : Nat) : Int)) (k := 2) (i := 0) (r := 0) (lo := 0) (up := 7) (bu := (-1)) (by omega) (by decide) (by omega) (fun z => absurd rfl z) ⟨by omega, by omega⟩ ⟨by omega, by omega⟩ ⟨by omega, by omega⟩ (hok_p (by decide +kernel) (by decide +kernel) (by omega)) 99999 with ⟨x1, x2⟩ | ⟨C1, R1, f1, t1, k1, v0, x1, x2, p0_E, p0_T, p0_F, p0_o, p0_l, p0_A, p0_B, p0_c, p0_r, p0_0, p0_9, p0_g⟩
  · rw [show sX12_takeChild 359 0 (-1) R0 = _ from tch0 x2] at hrr
    exact outF (R' := mU (mU R0 359 17 (f0 : Int)) 359 22 (mU R0 359 17 (f0 : Int) 359 22)) (hrc.trans x1) (hrr.symm.trans rfl) aT.1.1 (by rw [mU_ne _ _ (by omega), mU_eq]) hH aW (XB_u (XB_u (WB_X aV)))
  rw [show sX12_takeChild 359 0 (-1) R0 = _ from tch1 (x := 0) (by omega) x2, ob_s] at hrr
  dsimp only at hrr
  rw [i10] at hrr
  have hrc := hrc.trans x1
  have p0_W := WA_t aW (WA_n p0_A)
  have p0_far : sX12_greater (R1 359 22) (R1 371 0) = max (R 359 22) v0 := by rw [(WB_n p0_B).2, aV.2, p0_r]; exact gr_e ⟨by omega, by omega⟩ ⟨by omega, by omega⟩
  rw [p0_far] at hrr
  obtain ⟨R1c, eR1c⟩ : ∃ N : MM, N = mU R1 359 22 (max (R 359 22) v0) := ⟨_, rfl⟩
  rw [← eR1c] at hrr
  have p0_Ec : ENV T L C1 R1c := by rw [eR1c]; exact t2E p0_E
  have p0_Tc : TT T L f1 t1 k1 C1 R1c := by rw [eR1c]; exact t2T p0_T
  have p0_Fc : FF f1 C1 R1c := by rw [eR1c]; exact t2F p0_F
  have p0_X : XB R R1c := by rw [eR1c]; exact XB_u (XB_t (WB_X aV) (WB_X (WB_n p0_B)))
  have p0_370 : R1c 370 = R 370 := by rw [eR1c, mU_row _ _ (by omega), (WB_n p0_B).1 370 (by omega) (by omega)]; exact (aV.1 370 (by omega) (by omega))
  have p0_22 : R1c 359 22 = max (R 359 22) v0 := by rw [eR1c, mU_eq]
  have p0_gc : R1c 359 23 = R1 359 23 := by rw [eR1c, mU_ne _ _ (by omega)]
  have p0_rc : R1c 371 0 = v0 := by rw [eR1c, mU_row _ _ (by omega)]; exact p0_r
  rcases num2 p0_Ec p0_Tc p0_Fc (s := ((0 : Nat) : Int)) (k := 2) (i := 1) (r := 1) (lo := 0) (up := 24) (bu := (-1)) (by omega) (by decide) (by omega) (fun z => by rw [p0_c]; exact ⟨by omega, by omega⟩) ⟨by omega, by omega⟩ ⟨by omega, by omega⟩ ⟨by omega, by omega⟩ (hok_p (by decide +kernel) (by decide +kernel) (by omega)) 99998 with ⟨x1, x2⟩ | ⟨C2, R2, f2, t2, k2, v1, x1, x2, p1_E, p1_T, p1_F, p1_o, p1_l, p1_A, p1_B, p1_c, p1_r, p1_0, p1_9, p1_g⟩
  · rw [show sX12_take 359 1 0 24 R1c = _ from take0 x2] at hrr
    exact outF (R' := mU R1c 359 17 (f1 : Int)) (hrc.trans x1) (hrr.symm.trans rfl) p0_Tc.1.1 (mU_eq _ _ _ _) hH p0_W (XB_u p0_X)
  rw [show sX12_take 359 1 0 24 R1c = _ from take1 x2, ob_s] at hrr
  dsimp only at hrr
  rw [i10] at hrr
  have hrc := hrc.trans x1
  have p1_W := WA_t p0_W (WA_n p1_A)
  have p1_V := WB_t (WB_r (C := R1c)) (WB_n p1_B)
  have p1_c0 : C2 114 0 = v0 := by rw [p1_A 114 0 (by omega) (by omega)]; exact p0_c
  have p1_r0 : R2 371 0 = v0 := by rw [p1_B 371 0 (by omega) (by omega)]; exact p0_rc
  have hX : XB R R2 := XB_t p0_X (WB_X p1_V)
  have w370 : R2 370 = R 370 := (p1_V.1 370 (by omega) (by omega)).trans p0_370
  have w22 : R2 359 22 = max (R 359 22) v0 := p1_V.2.trans p0_22
  have hrc := hrc.trans (numE (k := 2) (by omega) 99997)
  have h5 : C2 79 5 = 0 → C 79 5 = 0 ∧ (0 ≤ v0 ∧ v0 ≤ 7 ∧ v0 ≠ -1) ∧ (0 ≤ v1 ∧ v1 ≤ 24 ∧ v1 ≠ -1) := by
    intro z
    obtain ⟨p1_q, p1_z⟩ := (gz p1_g).1 z
    obtain ⟨p0_q, p0_z⟩ := (gz p0_g).1 p1_z
    exact ⟨aD p0_z, p0_q, p1_q⟩
  have hd : C 79 5 = 0 → (PC C 80 (R 370) ∧ PVd (R 370)) ∧ NR (C 79 12) (R 359 22) := fun z => hD z
  have hgood : R2 359 23 ≠ 0 → (0 ≤ v0 ∧ v0 ≤ 7 ∧ v0 ≠ -1) ∧ (0 ≤ v1 ∧ v1 ≤ 24 ∧ v1 ≠ -1) := by
    intro z
    obtain ⟨p1_q, p1_e⟩ := (gz p1_g).2 z
    rw [p1_e] at z
    rw [p0_gc] at z
    obtain ⟨p0_q, p0_e⟩ := (gz p0_g).2 z
    rw [p0_e] at z
    exact ⟨p0_q, p1_q⟩
  have hone : C2 79 5 = 0 → R2 359 23 = 1 := by
    intro z
    have p1_e := gz3 p1_g z
    have p1_z := ((gz p1_g).1 z).2
    have p0_e := gz3 p0_g p1_z
    have p0_z := ((gz p0_g).1 p1_z).2
    rw [p1_e, p0_gc, p0_e, a23]; exact hg
  have hRB : ∀ N : MM, N 370 0 = R 370 0 → N 370 1 = R 370 1 → N 359 22 = max (R 359 22) v0 → RB 0 N := fun N g1 g2 g3 => by unfold RB; rw [g1, g2, g3]; exact ⟨hB.1, hB.2.1, hB.2.2.1, hB.2.2.2.1, by omega, by omega⟩
  by_cases hz : wI (R2 359 23) = 0
  · rw [if_pos hz] at hrr
    exact outG (R' := R2) hrc (hrr.symm.trans rfl) p1_E p1_T p1_F (by omega) (fun a _ _ _ => rfl) (fun j _ => rfl) (hRB _ (by rw [w370]) (by rw [w370]) w22) p1_W hX hH (fun z => absurd (by rw [hone z] at hz; exact hz) (by decide +kernel))
  · obtain ⟨⟨u0, u0', u0''⟩, ⟨u1, u1', u1''⟩⟩ := hgood (fun z => hz (by rw [z]; exact wI_0))
    obtain ⟨c, rfl⟩ := Int.eq_ofNat_of_zero_le u0
    have hw : wI (28 + 13 * (R2 371 0) + 4) = ((32 + 13 * c : Nat) : Int) := by rw [p1_r0, wI_of (by omega) (by omega)]; omega
    have hin : (0 : Int) ≤ ((32 + 13 * c : Nat) : Int) ∧ ((32 + 13 * c : Nat) : Int) < 132 := ⟨by omega, by omega⟩
    rw [if_neg hz] at hrr
    simp only [g359_21, g359_20] at hrr
    rw [hw, if_pos hin, tN, p1_r, ob_s] at hrr
    refine outG (R' := mU R2 370 (32 + 13 * c) v1) hrc (hrr.symm.trans rfl) p1_E p1_T p1_F (by omega) (fun a _ h _ => mU_row _ _ h) (fun j _ => mU_ne _ _ (by omega)) (hRB _ (by rw [mU_ne _ _ (by omega), w370]) (by rw [mU_ne _ _ (by omega), w370]) (by rw [mU_ne _ _ (by omega)]; exact w22)) p1_W hX hH (fun z C'' hrw h12 h114 => ?_)
    have z1 := (h5 z).1
    have hC0 : C'' 114 0 = (c : Int) := by rw [h114]; exact p1_c0
    have hC1 : C'' 114 1 = v1 := by rw [h114]; exact p1_c
    have hwc : Unit → wI (c : Int) = (c : Int) := fun _ => wI_of (by omega) (by omega)
    have hc0 : ¬ (c : Int) < 0 := by omega
    have hc8 : ¬ (8 : Int) ≤ (c : Int) := by omega
    have hc9 : (0 : Int) ≤ (c : Int) ∧ (c : Int) < 8 := ⟨by omega, by omega⟩
    have hc32 : (0 : Int) ≤ (c : Int) ∧ (c : Int) < 32 := ⟨by omega, by omega⟩
    refine ⟨mU (mU C'' 87 c v1) 79 12 (oI (C'' 79 12) (1 * 2 ^ c)), ?_, ?_, ?_, fun a ha => ?_, fun j hj => ?_⟩
    · unfold sX7_keep sX7_keep_b0 sX7_keepOfParty sX7_keepOfParty_b0 sX5_setSpot sX5_setSpot_b0
      rw [show wI ((2 : Nat) : Int) = 2 by decide +kernel, if_neg (by omega), if_neg (by omega), if_neg (by omega), if_pos rfl, g79_0, g79_7, hC0, hC1, show gR 80 8 = 87 from PG_80.2.2.2.2.2.2.1, hwc (), if_neg hc0, if_neg hc8, if_pos hc9, tN, ob_s, ob_s, mU_row (b := 114) _ _ (by omega), hC0, hwc (), if_pos hc32, mU_row (b := 79) _ _ (by omega), tN, ob_s, ob_s]
    · show (PC _ 80 _ ∧ PVd _) ∧ NR _ _
      refine ⟨?_, ?_⟩
      · have hq := d_spot (C := C'') (P := R 370) (P' := mU R2 370 (32 + 13 * c) v1 370) (by omega) ⟨by omega, by omega⟩ (fun j hj => by rw [mU_ne _ _ (by omega), w370]) (mU_eq _ _ _ _) ⟨PC_c (fun j hj => hrw _ (by omega) (by omega)) (hd z1).1.1, (hd z1).1.2⟩
        exact ⟨PC_c (fun j hj => mU_row _ _ (by omega)) hq.1, hq.2⟩
      · rw [mU_eq, mU_row _ _ (by omega), w22, h12]; exact NR_o (hd z1).2 (by omega)
    · exact HM_c (HM_u (HM_c hH (C' := C'') (fun a ha hb => hrw a (by omega) (by omega))) (a := 87) (by omega)) (fun a ha hb => mU_row _ _ (by omega))
    · rw [mU_row _ _ (by omega), mU_row _ _ (by omega)]
    · rw [mU_ne _ _ (by omega), mU_row _ _ (by omega)]
theorem kl_3 {T : Nat → Int} {L f t : Nat} {C R : MM} (h : LNP T L 0 f t C R) : OUT T L 0 3 f C R (sX7_readsLine_b18 79 1 ((0 : Nat) : Int) ((3 : Nat) : Int) C) (sX12_partyLine 359 112641580559972 (f : Int) R) := by
  obtain ⟨hE, hT, hF, hB, hH, hD, hg⟩ := h
  have hfu : sX7_isFull 79 ((3 : Nat) : Int) C = some 0 := fu_e hH (by omega)
  obtain ⟨C0, R0, f0, t0, k0, a1, a3, aE, aT, aF, aff, aW, aV, a23, a371, aD⟩ := head0 (s := ((0 : Nat) : Int)) (k := 3) hE hT hF (by omega) hfu
  generalize hrr : sX12_partyLine 359 112641580559972 (f : Int) R = rr
  generalize hrc : sX7_readsLine_b18 79 1 ((0 : Nat) : Int) ((3 : Nat) : Int) C = rc
  rw [a1] at hrc
  have hrc := hrc.symm
  unfold sX12_partyLine sX12_partyLine_b0 sX12_partyLine_b30 sX12_partyLine_b35 sX12_partyLine_b85 sX12_partyLine_b119 sX12_partyLine_b163 sX12_partyLine_b177 sX12_ofChildren sX12_ofChildren_b0 sX12_ofChildren_b127 at hrr
  rw [show sX12_plainOf 112641580559972 = (-1) by decide +kernel] at hrr
  simp only [if_neg (show ¬ wJ 112641580559972 = 1885434484 by decide +kernel), if_neg (show ¬ wJ 112641580559972 = 426953501796 by decide +kernel), if_neg (show ¬ wJ 112641580559972 = 1667591276 by decide +kernel), if_pos (show wJ 112641580559972 = 112641580559972 by decide +kernel), if_neg (show ¬ wJ 112641580559972 = 6713189 by decide +kernel), if_neg (show ¬ wJ 112641580559972 = 128047779833188 by decide +kernel), if_neg (show ¬ wJ 112641580559972 = 1919512167 by decide +kernel), if_neg (show ¬ wJ 112641580559972 = 422726039411 by decide +kernel), if_neg (show ¬ wJ 112641580559972 = 1818846836 by decide +kernel), if_neg (show ¬ wJ 112641580559972 = 126956639450227 by decide +kernel), if_neg (show ¬ wJ 112641580559972 = 27691674476046181 by decide +kernel), if_neg (show ¬ wJ 112641580559972 = 495874302827 by decide +kernel), if_pos (show wI (-1) = (-1) by decide +kernel), if_pos (show wI 0 = 0 by decide +kernel), if_neg (show ¬ wI 1 = 0 by decide +kernel)] at hrr
  rw [a3, ob_s] at hrr
  have hfar := hB.2.2.2.2
  rcases num2 aE aT aF (s := ((0 : Nat) : Int)) (k := 3) (i := 0) (r := 0) (lo := 0) (up := 7) (bu := (-1)) (by omega) (by decide) (by omega) (fun z => absurd rfl z) ⟨by omega, by omega⟩ ⟨by omega, by omega⟩ ⟨by omega, by omega⟩ (hok_p (by decide +kernel) (by decide +kernel) (by omega)) 99999 with ⟨x1, x2⟩ | ⟨C1, R1, f1, t1, k1, v0, x1, x2, p0_E, p0_T, p0_F, p0_o, p0_l, p0_A, p0_B, p0_c, p0_r, p0_0, p0_9, p0_g⟩
  · rw [show sX12_takeChild 359 0 (-1) R0 = _ from tch0 x2] at hrr
    exact outF (R' := mU (mU R0 359 17 (f0 : Int)) 359 22 (mU R0 359 17 (f0 : Int) 359 22)) (hrc.trans x1) (hrr.symm.trans rfl) aT.1.1 (by rw [mU_ne _ _ (by omega), mU_eq]) hH aW (XB_u (XB_u (WB_X aV)))
  rw [show sX12_takeChild 359 0 (-1) R0 = _ from tch1 (x := 0) (by omega) x2, ob_s] at hrr
  dsimp only at hrr
  rw [i10] at hrr
  have hrc := hrc.trans x1
  have p0_W := WA_t aW (WA_n p0_A)
  have p0_far : sX12_greater (R1 359 22) (R1 371 0) = max (R 359 22) v0 := by rw [(WB_n p0_B).2, aV.2, p0_r]; exact gr_e ⟨by omega, by omega⟩ ⟨by omega, by omega⟩
  rw [p0_far] at hrr
  obtain ⟨R1c, eR1c⟩ : ∃ N : MM, N = mU R1 359 22 (max (R 359 22) v0) := ⟨_, rfl⟩
  rw [← eR1c] at hrr
  have p0_Ec : ENV T L C1 R1c := by rw [eR1c]; exact t2E p0_E
  have p0_Tc : TT T L f1 t1 k1 C1 R1c := by rw [eR1c]; exact t2T p0_T
  have p0_Fc : FF f1 C1 R1c := by rw [eR1c]; exact t2F p0_F
  have p0_X : XB R R1c := by rw [eR1c]; exact XB_u (XB_t (WB_X aV) (WB_X (WB_n p0_B)))
  have p0_370 : R1c 370 = R 370 := by rw [eR1c, mU_row _ _ (by omega), (WB_n p0_B).1 370 (by omega) (by omega)]; exact (aV.1 370 (by omega) (by omega))
  have p0_22 : R1c 359 22 = max (R 359 22) v0 := by rw [eR1c, mU_eq]
  have p0_gc : R1c 359 23 = R1 359 23 := by rw [eR1c, mU_ne _ _ (by omega)]
  have p0_rc : R1c 371 0 = v0 := by rw [eR1c, mU_row _ _ (by omega)]; exact p0_r
  simp only [g359_21] at hrr
  rw [p0_rc] at hrr
  rcases num2 p0_Ec p0_Tc p0_Fc (s := ((0 : Nat) : Int)) (k := 3) (i := 1) (r := 1) (lo := 0) (up := 7) (bu := v0) (by omega) (by decide) (by omega) (fun z => by rw [p0_c]; exact ⟨by omega, by omega⟩) ⟨by omega, by omega⟩ ⟨by omega, by omega⟩ ⟨by omega, by omega⟩ (hok_f (by decide +kernel) (by decide +kernel) (by omega) p0_c) 99998 with ⟨x1, x2⟩ | ⟨C2, R2, f2, t2, k2, v1, x1, x2, p1_E, p1_T, p1_F, p1_o, p1_l, p1_A, p1_B, p1_c, p1_r, p1_0, p1_9, p1_g⟩
  · rw [show sX12_takeChild 359 1 v0 R1c = _ from tch0 x2] at hrr
    exact outF (R' := mU (mU R1c 359 17 (f1 : Int)) 359 22 (mU R1c 359 17 (f1 : Int) 359 22)) (hrc.trans x1) (hrr.symm.trans rfl) p0_Tc.1.1 (by rw [mU_ne _ _ (by omega), mU_eq]) hH p0_W (XB_u (XB_u p0_X))
  rw [show sX12_takeChild 359 1 v0 R1c = _ from tch1 (x := 1) (by omega) x2, ob_s] at hrr
  dsimp only at hrr
  rw [i10] at hrr
  have hrc := hrc.trans x1
  have p1_W := WA_t p0_W (WA_n p1_A)
  have p1_far : sX12_greater (R2 359 22) (R2 371 1) = max (max (R 359 22) v0) v1 := by rw [(WB_n p1_B).2, p0_22, p1_r]; exact gr_e ⟨by omega, by omega⟩ ⟨by omega, by omega⟩
  rw [p1_far] at hrr
  obtain ⟨R2c, eR2c⟩ : ∃ N : MM, N = mU R2 359 22 (max (max (R 359 22) v0) v1) := ⟨_, rfl⟩
  rw [← eR2c] at hrr
  have p1_Ec : ENV T L C2 R2c := by rw [eR2c]; exact t2E p1_E
  have p1_Tc : TT T L f2 t2 k2 C2 R2c := by rw [eR2c]; exact t2T p1_T
  have p1_Fc : FF f2 C2 R2c := by rw [eR2c]; exact t2F p1_F
  have p1_X : XB R R2c := by rw [eR2c]; exact XB_u (XB_t p0_X (WB_X (WB_n p1_B)))
  have p1_370 : R2c 370 = R 370 := by rw [eR2c, mU_row _ _ (by omega), (WB_n p1_B).1 370 (by omega) (by omega)]; exact p0_370
  have p1_22 : R2c 359 22 = max (max (R 359 22) v0) v1 := by rw [eR2c, mU_eq]
  have p1_gc : R2c 359 23 = R2 359 23 := by rw [eR2c, mU_ne _ _ (by omega)]
  have p1_rc : R2c 371 1 = v1 := by rw [eR2c, mU_row _ _ (by omega)]; exact p1_r
  have p1_c0 : C2 114 0 = v0 := by rw [p1_A 114 0 (by omega) (by omega)]; exact p0_c
  have p1_r0 : R2c 371 0 = v0 := by rw [eR2c, mU_row _ _ (by omega), p1_B 371 0 (by omega) (by omega)]; exact p0_rc
  have hX : XB R R2c := p1_X
  have w370 : R2c 370 = R 370 := p1_370
  have w22 : R2c 359 22 = max (max (R 359 22) v0) v1 := p1_22
  have hrc := hrc.trans (numE (k := 3) (by omega) 99997)
  have h5 : C2 79 5 = 0 → C 79 5 = 0 ∧ (0 ≤ v0 ∧ v0 ≤ 7 ∧ v0 ≠ -1) ∧ (0 ≤ v1 ∧ v1 ≤ 7 ∧ v1 ≠ v0) := by
    intro z
    obtain ⟨p1_q, p1_z⟩ := (gz p1_g).1 z
    obtain ⟨p0_q, p0_z⟩ := (gz p0_g).1 p1_z
    exact ⟨aD p0_z, p0_q, p1_q⟩
  have hd : C 79 5 = 0 → (PC C 80 (R 370) ∧ PVd (R 370)) ∧ NR (C 79 12) (R 359 22) := fun z => hD z
  have hgood : R2c 359 23 ≠ 0 → (0 ≤ v0 ∧ v0 ≤ 7 ∧ v0 ≠ -1) ∧ (0 ≤ v1 ∧ v1 ≤ 7 ∧ v1 ≠ v0) := by
    intro z
    rw [p1_gc] at z
    obtain ⟨p1_q, p1_e⟩ := (gz p1_g).2 z
    rw [p1_e] at z
    rw [p0_gc] at z
    obtain ⟨p0_q, p0_e⟩ := (gz p0_g).2 z
    rw [p0_e] at z
    exact ⟨p0_q, p1_q⟩
  have hone : C2 79 5 = 0 → R2c 359 23 = 1 := by
    intro z
    have p1_e := gz3 p1_g z
    have p1_z := ((gz p1_g).1 z).2
    have p0_e := gz3 p0_g p1_z
    have p0_z := ((gz p0_g).1 p1_z).2
    rw [p1_gc, p1_e, p0_gc, p0_e, a23]; exact hg
  have hRB : ∀ N : MM, N 370 0 = R 370 0 → N 370 1 = R 370 1 → N 359 22 = max (max (R 359 22) v0) v1 → RB 0 N := fun N g1 g2 g3 => by unfold RB; rw [g1, g2, g3]; exact ⟨hB.1, hB.2.1, hB.2.2.1, hB.2.2.2.1, by omega, by omega⟩
  by_cases hz : wI (R2c 359 23) = 0
  · rw [if_pos hz] at hrr
    exact outG (R' := R2c) hrc (hrr.symm.trans rfl) p1_Ec p1_Tc p1_Fc (by omega) (fun a _ _ _ => rfl) (fun j _ => rfl) (hRB _ (by rw [w370]) (by rw [w370]) w22) p1_W hX hH (fun z => absurd (by rw [hone z] at hz; exact hz) (by decide +kernel))
  · obtain ⟨⟨u0, u0', u0''⟩, ⟨u1, u1', u1''⟩⟩ := hgood (fun z => hz (by rw [z]; exact wI_0))
    obtain ⟨c, rfl⟩ := Int.eq_ofNat_of_zero_le u0
    obtain ⟨d, rfl⟩ := Int.eq_ofNat_of_zero_le u1
    have hw : wI (28 + 13 * (R2c 371 0) + 5 + R2c 371 1) = ((33 + 13 * c + d : Nat) : Int) := by rw [p1_r0, p1_rc, wI_of (by omega) (by omega)]; omega
    have hin : (0 : Int) ≤ ((33 + 13 * c + d : Nat) : Int) ∧ ((33 + 13 * c + d : Nat) : Int) < 132 := ⟨by omega, by omega⟩
    rw [if_neg hz] at hrr
    simp only [g359_21, g359_20] at hrr
    rw [hw, if_pos hin, tN, ob_s] at hrr
    refine outG (R' := mU R2c 370 (33 + 13 * c + d) 2) hrc (hrr.symm.trans rfl) p1_Ec p1_Tc p1_Fc (by omega) (fun a _ h _ => mU_row _ _ h) (fun j _ => mU_ne _ _ (by omega)) (hRB _ (by rw [mU_ne _ _ (by omega), w370]) (by rw [mU_ne _ _ (by omega), w370]) (by rw [mU_ne _ _ (by omega)]; exact w22)) p1_W hX hH (fun z C'' hrw h12 h114 => ?_)
    have z1 := (h5 z).1
    have hC0 : C'' 114 0 = (c : Int) := by rw [h114]; exact p1_c0
    have hC1 : C'' 114 1 = (d : Int) := by rw [h114]; exact p1_c
    have hwc : Unit → wI (c : Int) = (c : Int) := fun _ => wI_of (by omega) (by omega)
    have hc0 : ¬ (c : Int) < 0 := by omega
    have hc8 : ¬ (8 : Int) ≤ (c : Int) := by omega
    have hc9 : (0 : Int) ≤ (c : Int) ∧ (c : Int) < 8 := ⟨by omega, by omega⟩
    have hc32 : (0 : Int) ≤ (c : Int) ∧ (c : Int) < 32 := ⟨by omega, by omega⟩
    have hwd : Unit → wI (d : Int) = (d : Int) := fun _ => wI_of (by omega) (by omega)
    have hd0 : ¬ (d : Int) < 0 := by omega
    have hd8 : ¬ (8 : Int) ≤ (d : Int) := by omega
    have hd32 : (0 : Int) ≤ (d : Int) ∧ (d : Int) < 32 := ⟨by omega, by omega⟩
    have hwcd : Unit → wI ((c : Int) * 8 + (d : Int)) = ((8 * c + d : Nat) : Int) := fun _ => by rw [wI_of (by omega) (by omega)]; omega
    have hcd : (0 : Int) ≤ ((8 * c + d : Nat) : Int) ∧ ((8 * c + d : Nat) : Int) < 64 := ⟨by omega, by omega⟩
    refine ⟨mU (mU C'' 88 (8 * c + d) 2) 79 12 (oI (C'' 79 12) (oI (1 * 2 ^ c) (1 * 2 ^ d))), ?_, ?_, ?_, fun a ha => ?_, fun j hj => ?_⟩
    · unfold sX7_keep sX7_keep_b0 sX7_keepOfParty sX7_keepOfParty_b0 sX5_setTie sX5_setTie_b0
      rw [show wI ((3 : Nat) : Int) = 3 by decide +kernel, if_neg (by omega), if_neg (by omega), if_neg (by omega), if_neg (by omega), if_pos rfl, g79_0, g79_7, hC0, hC1, show gR 80 9 = 88 from PG_80.2.2.2.2.2.2.2.1, hwc (), if_neg hc0, if_neg hc8, hwd (), if_neg hd0, if_neg hd8, hwcd (), if_pos hcd, tN, ob_s, ob_s, mU_row (b := 114) _ _ (by omega), hC0, hC1, hwc (), hwd (), if_pos hc32, if_pos hd32, mU_row (b := 79) _ _ (by omega), tN, tN, ob_s, ob_s]
    · show (PC _ 80 _ ∧ PVd _) ∧ NR _ _
      refine ⟨?_, ?_⟩
      · have hq := d_tie (C := C'') (P := R 370) (P' := mU R2c 370 (33 + 13 * c + d) 2 370) (by omega) (by omega) ⟨by omega, by omega⟩ (fun j hj => by rw [mU_ne _ _ (by omega), w370]) (mU_eq _ _ _ _) ⟨PC_c (fun j hj => hrw _ (by omega) (by omega)) (hd z1).1.1, (hd z1).1.2⟩
        exact ⟨PC_c (fun j hj => mU_row _ _ (by omega)) hq.1, hq.2⟩
      · rw [mU_eq, mU_row _ _ (by omega), w22, h12, oI_a]; exact NR_o (NR_o (hd z1).2 (by omega)) (by omega)
    · exact HM_c (HM_u (HM_c hH (C' := C'') (fun a ha hb => hrw a (by omega) (by omega))) (a := 88) (by omega)) (fun a ha hb => mU_row _ _ (by omega))
    · rw [mU_row _ _ (by omega), mU_row _ _ (by omega)]
    · rw [mU_ne _ _ (by omega), mU_row _ _ (by omega)]
theorem kl_4 {T : Nat → Int} {L f t : Nat} {C R : MM} (h : LNP T L 0 f t C R) : OUT T L 0 4 f C R (sX7_readsLine_b18 79 1 ((0 : Nat) : Int) ((4 : Nat) : Int) C) (sX12_partyLine 359 6713189 (f : Int) R) := by
  obtain ⟨hE, hT, hF, hB, hH, hD, hg⟩ := h
  have hfu : sX7_isFull 79 ((4 : Nat) : Int) C = some 0 := fu_e hH (by omega)
  obtain ⟨C0, R0, f0, t0, k0, a1, a3, aE, aT, aF, aff, aW, aV, a23, a371, aD⟩ := head0 (s := ((0 : Nat) : Int)) (k := 4) hE hT hF (by omega) hfu
  generalize hrr : sX12_partyLine 359 6713189 (f : Int) R = rr
  generalize hrc : sX7_readsLine_b18 79 1 ((0 : Nat) : Int) ((4 : Nat) : Int) C = rc
  rw [a1] at hrc
  have hrc := hrc.symm
  unfold sX12_partyLine sX12_partyLine_b0 sX12_partyLine_b30 sX12_partyLine_b35 sX12_partyLine_b85 sX12_partyLine_b119 sX12_partyLine_b163 sX12_partyLine_b177 sX12_ofChildren sX12_ofChildren_b0 sX12_ofChildren_b127 at hrr
  rw [show sX12_plainOf 6713189 = (-1) by decide +kernel] at hrr
  simp only [if_neg (show ¬ wJ 6713189 = 1885434484 by decide +kernel), if_neg (show ¬ wJ 6713189 = 426953501796 by decide +kernel), if_neg (show ¬ wJ 6713189 = 1667591276 by decide +kernel), if_neg (show ¬ wJ 6713189 = 112641580559972 by decide +kernel), if_pos (show wJ 6713189 = 6713189 by decide +kernel), if_neg (show ¬ wJ 6713189 = 128047779833188 by decide +kernel), if_neg (show ¬ wJ 6713189 = 1919512167 by decide +kernel), if_neg (show ¬ wJ 6713189 = 422726039411 by decide +kernel), if_neg (show ¬ wJ 6713189 = 1818846836 by decide +kernel), if_neg (show ¬ wJ 6713189 = 126956639450227 by decide +kernel), if_neg (show ¬ wJ 6713189 = 27691674476046181 by decide +kernel), if_neg (show ¬ wJ 6713189 = 495874302827 by decide +kernel), if_pos (show wI (-1) = (-1) by decide +kernel), if_pos (show wI 0 = 0 by decide +kernel), if_neg (show ¬ wI 1 = 0 by decide +kernel)] at hrr
  rw [a3, ob_s] at hrr
  have hfar := hB.2.2.2.2
  rcases num2 aE aT aF (s := ((0 : Nat) : Int)) (k := 4) (i := 0) (r := 0) (lo := 0) (up := 7) (bu := (-1)) (by omega) (by decide) (by omega) (fun z => absurd rfl z) ⟨by omega, by omega⟩ ⟨by omega, by omega⟩ ⟨by omega, by omega⟩ (hok_p (by decide +kernel) (by decide +kernel) (by omega)) 99999 with ⟨x1, x2⟩ | ⟨C1, R1, f1, t1, k1, v0, x1, x2, p0_E, p0_T, p0_F, p0_o, p0_l, p0_A, p0_B, p0_c, p0_r, p0_0, p0_9, p0_g⟩
  · rw [show sX12_takeChild 359 0 (-1) R0 = _ from tch0 x2] at hrr
    exact outF (R' := mU (mU R0 359 17 (f0 : Int)) 359 22 (mU R0 359 17 (f0 : Int) 359 22)) (hrc.trans x1) (hrr.symm.trans rfl) aT.1.1 (by rw [mU_ne _ _ (by omega), mU_eq]) hH aW (XB_u (XB_u (WB_X aV)))
  rw [show sX12_takeChild 359 0 (-1) R0 = _ from tch1 (x := 0) (by omega) x2, ob_s] at hrr
  dsimp only at hrr
  rw [i10] at hrr
  have hrc := hrc.trans x1
  have p0_W := WA_t aW (WA_n p0_A)
  have p0_far : sX12_greater (R1 359 22) (R1 371 0) = max (R 359 22) v0 := by rw [(WB_n p0_B).2, aV.2, p0_r]; exact gr_e ⟨by omega, by omega⟩ ⟨by omega, by omega⟩
  rw [p0_far] at hrr
  obtain ⟨R1c, eR1c⟩ : ∃ N : MM, N = mU R1 359 22 (max (R 359 22) v0) := ⟨_, rfl⟩
  rw [← eR1c] at hrr
  have p0_Ec : ENV T L C1 R1c := by rw [eR1c]; exact t2E p0_E
  have p0_Tc : TT T L f1 t1 k1 C1 R1c := by rw [eR1c]; exact t2T p0_T
  have p0_Fc : FF f1 C1 R1c := by rw [eR1c]; exact t2F p0_F
  have p0_X : XB R R1c := by rw [eR1c]; exact XB_u (XB_t (WB_X aV) (WB_X (WB_n p0_B)))
  have p0_370 : R1c 370 = R 370 := by rw [eR1c, mU_row _ _ (by omega), (WB_n p0_B).1 370 (by omega) (by omega)]; exact (aV.1 370 (by omega) (by omega))
  have p0_22 : R1c 359 22 = max (R 359 22) v0 := by rw [eR1c, mU_eq]
  have p0_gc : R1c 359 23 = R1 359 23 := by rw [eR1c, mU_ne _ _ (by omega)]
  have p0_rc : R1c 371 0 = v0 := by rw [eR1c, mU_row _ _ (by omega)]; exact p0_r
  simp only [g359_21] at hrr
  rw [p0_rc] at hrr
  rcases num2 p0_Ec p0_Tc p0_Fc (s := ((0 : Nat) : Int)) (k := 4) (i := 1) (r := 1) (lo := 0) (up := 7) (bu := v0) (by omega) (by decide) (by omega) (fun z => by rw [p0_c]; exact ⟨by omega, by omega⟩) ⟨by omega, by omega⟩ ⟨by omega, by omega⟩ ⟨by omega, by omega⟩ (hok_f (by decide +kernel) (by decide +kernel) (by omega) p0_c) 99998 with ⟨x1, x2⟩ | ⟨C2, R2, f2, t2, k2, v1, x1, x2, p1_E, p1_T, p1_F, p1_o, p1_l, p1_A, p1_B, p1_c, p1_r, p1_0, p1_9, p1_g⟩
  · rw [show sX12_takeChild 359 1 v0 R1c = _ from tch0 x2] at hrr
    exact outF (R' := mU (mU R1c 359 17 (f1 : Int)) 359 22 (mU R1c 359 17 (f1 : Int) 359 22)) (hrc.trans x1) (hrr.symm.trans rfl) p0_Tc.1.1 (by rw [mU_ne _ _ (by omega), mU_eq]) hH p0_W (XB_u (XB_u p0_X))
  rw [show sX12_takeChild 359 1 v0 R1c = _ from tch1 (x := 1) (by omega) x2, ob_s] at hrr
  dsimp only at hrr
  rw [i10] at hrr
  have hrc := hrc.trans x1
  have p1_W := WA_t p0_W (WA_n p1_A)
  have p1_far : sX12_greater (R2 359 22) (R2 371 1) = max (max (R 359 22) v0) v1 := by rw [(WB_n p1_B).2, p0_22, p1_r]; exact gr_e ⟨by omega, by omega⟩ ⟨by omega, by omega⟩
  rw [p1_far] at hrr
  obtain ⟨R2c, eR2c⟩ : ∃ N : MM, N = mU R2 359 22 (max (max (R 359 22) v0) v1) := ⟨_, rfl⟩
  rw [← eR2c] at hrr
  have p1_Ec : ENV T L C2 R2c := by rw [eR2c]; exact t2E p1_E
  have p1_Tc : TT T L f2 t2 k2 C2 R2c := by rw [eR2c]; exact t2T p1_T
  have p1_Fc : FF f2 C2 R2c := by rw [eR2c]; exact t2F p1_F
  have p1_X : XB R R2c := by rw [eR2c]; exact XB_u (XB_t p0_X (WB_X (WB_n p1_B)))
  have p1_370 : R2c 370 = R 370 := by rw [eR2c, mU_row _ _ (by omega), (WB_n p1_B).1 370 (by omega) (by omega)]; exact p0_370
  have p1_22 : R2c 359 22 = max (max (R 359 22) v0) v1 := by rw [eR2c, mU_eq]
  have p1_gc : R2c 359 23 = R2 359 23 := by rw [eR2c, mU_ne _ _ (by omega)]
  have p1_rc : R2c 371 1 = v1 := by rw [eR2c, mU_row _ _ (by omega)]; exact p1_r
  have p1_c0 : C2 114 0 = v0 := by rw [p1_A 114 0 (by omega) (by omega)]; exact p0_c
  have p1_r0 : R2c 371 0 = v0 := by rw [eR2c, mU_row _ _ (by omega), p1_B 371 0 (by omega) (by omega)]; exact p0_rc
  have hX : XB R R2c := p1_X
  have w370 : R2c 370 = R 370 := p1_370
  have w22 : R2c 359 22 = max (max (R 359 22) v0) v1 := p1_22
  have hrc := hrc.trans (numE (k := 4) (by omega) 99997)
  have h5 : C2 79 5 = 0 → C 79 5 = 0 ∧ (0 ≤ v0 ∧ v0 ≤ 7 ∧ v0 ≠ -1) ∧ (0 ≤ v1 ∧ v1 ≤ 7 ∧ v1 ≠ v0) := by
    intro z
    obtain ⟨p1_q, p1_z⟩ := (gz p1_g).1 z
    obtain ⟨p0_q, p0_z⟩ := (gz p0_g).1 p1_z
    exact ⟨aD p0_z, p0_q, p1_q⟩
  have hd : C 79 5 = 0 → (PC C 80 (R 370) ∧ PVd (R 370)) ∧ NR (C 79 12) (R 359 22) := fun z => hD z
  have hgood : R2c 359 23 ≠ 0 → (0 ≤ v0 ∧ v0 ≤ 7 ∧ v0 ≠ -1) ∧ (0 ≤ v1 ∧ v1 ≤ 7 ∧ v1 ≠ v0) := by
    intro z
    rw [p1_gc] at z
    obtain ⟨p1_q, p1_e⟩ := (gz p1_g).2 z
    rw [p1_e] at z
    rw [p0_gc] at z
    obtain ⟨p0_q, p0_e⟩ := (gz p0_g).2 z
    rw [p0_e] at z
    exact ⟨p0_q, p1_q⟩
  have hone : C2 79 5 = 0 → R2c 359 23 = 1 := by
    intro z
    have p1_e := gz3 p1_g z
    have p1_z := ((gz p1_g).1 z).2
    have p0_e := gz3 p0_g p1_z
    have p0_z := ((gz p0_g).1 p1_z).2
    rw [p1_gc, p1_e, p0_gc, p0_e, a23]; exact hg
  have hRB : ∀ N : MM, N 370 0 = R 370 0 → N 370 1 = R 370 1 → N 359 22 = max (max (R 359 22) v0) v1 → RB 0 N := fun N g1 g2 g3 => by unfold RB; rw [g1, g2, g3]; exact ⟨hB.1, hB.2.1, hB.2.2.1, hB.2.2.2.1, by omega, by omega⟩
  by_cases hz : wI (R2c 359 23) = 0
  · rw [if_pos hz] at hrr
    exact outG (R' := R2c) hrc (hrr.symm.trans rfl) p1_Ec p1_Tc p1_Fc (by omega) (fun a _ _ _ => rfl) (fun j _ => rfl) (hRB _ (by rw [w370]) (by rw [w370]) w22) p1_W hX hH (fun z => absurd (by rw [hone z] at hz; exact hz) (by decide +kernel))
  · obtain ⟨⟨u0, u0', u0''⟩, ⟨u1, u1', u1''⟩⟩ := hgood (fun z => hz (by rw [z]; exact wI_0))
    obtain ⟨c, rfl⟩ := Int.eq_ofNat_of_zero_le u0
    obtain ⟨d, rfl⟩ := Int.eq_ofNat_of_zero_le u1
    have hw : wI (28 + 13 * (R2c 371 0) + 5 + R2c 371 1) = ((33 + 13 * c + d : Nat) : Int) := by rw [p1_r0, p1_rc, wI_of (by omega) (by omega)]; omega
    have hin : (0 : Int) ≤ ((33 + 13 * c + d : Nat) : Int) ∧ ((33 + 13 * c + d : Nat) : Int) < 132 := ⟨by omega, by omega⟩
    rw [if_neg hz] at hrr
    simp only [g359_21, g359_20] at hrr
    rw [hw, if_pos hin, tN, ob_s] at hrr
    refine outG (R' := mU R2c 370 (33 + 13 * c + d) 0) hrc (hrr.symm.trans rfl) p1_Ec p1_Tc p1_Fc (by omega) (fun a _ h _ => mU_row _ _ h) (fun j _ => mU_ne _ _ (by omega)) (hRB _ (by rw [mU_ne _ _ (by omega), w370]) (by rw [mU_ne _ _ (by omega), w370]) (by rw [mU_ne _ _ (by omega)]; exact w22)) p1_W hX hH (fun z C'' hrw h12 h114 => ?_)
    have z1 := (h5 z).1
    have hC0 : C'' 114 0 = (c : Int) := by rw [h114]; exact p1_c0
    have hC1 : C'' 114 1 = (d : Int) := by rw [h114]; exact p1_c
    have hwc : Unit → wI (c : Int) = (c : Int) := fun _ => wI_of (by omega) (by omega)
    have hc0 : ¬ (c : Int) < 0 := by omega
    have hc8 : ¬ (8 : Int) ≤ (c : Int) := by omega
    have hc9 : (0 : Int) ≤ (c : Int) ∧ (c : Int) < 8 := ⟨by omega, by omega⟩
    have hc32 : (0 : Int) ≤ (c : Int) ∧ (c : Int) < 32 := ⟨by omega, by omega⟩
    have hwd : Unit → wI (d : Int) = (d : Int) := fun _ => wI_of (by omega) (by omega)
    have hd0 : ¬ (d : Int) < 0 := by omega
    have hd8 : ¬ (8 : Int) ≤ (d : Int) := by omega
    have hd32 : (0 : Int) ≤ (d : Int) ∧ (d : Int) < 32 := ⟨by omega, by omega⟩
    have hwcd : Unit → wI ((c : Int) * 8 + (d : Int)) = ((8 * c + d : Nat) : Int) := fun _ => by rw [wI_of (by omega) (by omega)]; omega
    have hcd : (0 : Int) ≤ ((8 * c + d : Nat) : Int) ∧ ((8 * c + d : Nat) : Int) < 64 := ⟨by omega, by omega⟩
    refine ⟨mU (mU C'' 88 (8 * c + d) 0) 79 12 (oI (C'' 79 12) (oI (1 * 2 ^ c) (1 * 2 ^ d))), ?_, ?_, ?_, fun a ha => ?_, fun j hj => ?_⟩
    · unfold sX7_keep sX7_keep_b0 sX7_keepOfParty sX7_keepOfParty_b0 sX5_setTie sX5_setTie_b0
      rw [show wI ((4 : Nat) : Int) = 4 by decide +kernel, if_neg (by omega), if_neg (by omega), if_neg (by omega), if_neg (by omega), if_neg (by omega), if_pos rfl, g79_0, g79_7, hC0, hC1, show gR 80 9 = 88 from PG_80.2.2.2.2.2.2.2.1, hwc (), if_neg hc0, if_neg hc8, hwd (), if_neg hd0, if_neg hd8, hwcd (), if_pos hcd, tN, ob_s, ob_s, mU_row (b := 114) _ _ (by omega), hC0, hC1, hwc (), hwd (), if_pos hc32, if_pos hd32, mU_row (b := 79) _ _ (by omega), tN, tN, ob_s, ob_s]
    · show (PC _ 80 _ ∧ PVd _) ∧ NR _ _
      refine ⟨?_, ?_⟩
      · have hq := d_tie (C := C'') (P := R 370) (P' := mU R2c 370 (33 + 13 * c + d) 0 370) (by omega) (by omega) ⟨by omega, by omega⟩ (fun j hj => by rw [mU_ne _ _ (by omega), w370]) (mU_eq _ _ _ _) ⟨PC_c (fun j hj => hrw _ (by omega) (by omega)) (hd z1).1.1, (hd z1).1.2⟩
        exact ⟨PC_c (fun j hj => mU_row _ _ (by omega)) hq.1, hq.2⟩
      · rw [mU_eq, mU_row _ _ (by omega), w22, h12, oI_a]; exact NR_o (NR_o (hd z1).2 (by omega)) (by omega)
    · exact HM_c (HM_u (HM_c hH (C' := C'') (fun a ha hb => hrw a (by omega) (by omega))) (a := 88) (by omega)) (fun a ha hb => mU_row _ _ (by omega))
    · rw [mU_row _ _ (by omega), mU_row _ _ (by omega)]
    · rw [mU_ne _ _ (by omega), mU_row _ _ (by omega)]
