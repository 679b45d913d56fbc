theorem kl_7 {T : Nat → Int} {L f t : Nat} {C R : MM} (h : LNP T L 0 f t C R) : OUT T L 0 7 f C R (sX7_readsLine_b18 79 1 ((0 : Nat) : Int) ((7 : Nat) : Int) C) (sX12_partyLine 359 422726039411 (f : Int) R) := by
  obtain ⟨hE, hT, hF, hB, hH, hD, hg⟩ := h
  have hfu : sX7_isFull 79 ((7 : Nat) : Int) C = some 0 := fu_e hH (by omega)
  obtain ⟨C0, R0, f0, t0, k0, a1, a3, aE, aT, aF, aff, aW, aV, a23, a371, aD⟩ := head0 (s := ((0 : Nat) : Int)) (k := 7) hE hT hF (by omega) hfu
  generalize hrr : sX12_partyLine 359 422726039411 (f : Int) R = rr
  generalize hrc : sX7_readsLine_b18 79 1 ((0 : Nat) : Int) ((7 : Nat) : Int) C = rc
  rw [a1] at hrc
  have hrc := hrc.symm
  unfold sX12_partyLine sX12_partyLine_b0 sX12_partyLine_b30 sX12_partyLine_b35 sX12_partyLine_b85 sX12_partyLine_b119 sX12_partyLine_b163 sX12_partyLine_b177 at hrr
  rw [show sX12_plainOf 422726039411 = 2 by decide +kernel] at hrr
  simp only [if_neg (show ¬ wJ 422726039411 = 1885434484 by decide +kernel), if_neg (show ¬ wJ 422726039411 = 426953501796 by decide +kernel), if_neg (show ¬ wJ 422726039411 = 1667591276 by decide +kernel), if_neg (show ¬ wJ 422726039411 = 112641580559972 by decide +kernel), if_neg (show ¬ wJ 422726039411 = 6713189 by decide +kernel), if_neg (show ¬ wJ 422726039411 = 128047779833188 by decide +kernel), if_neg (show ¬ wJ 422726039411 = 1919512167 by decide +kernel), if_pos (show wJ 422726039411 = 422726039411 by decide +kernel), if_neg (show ¬ wJ 422726039411 = 1818846836 by decide +kernel), if_neg (show ¬ wJ 422726039411 = 126956639450227 by decide +kernel), if_neg (show ¬ wJ 422726039411 = 27691674476046181 by decide +kernel), if_neg (show ¬ wJ 422726039411 = 495874302827 by decide +kernel), if_neg (show ¬ wI 2 = (-1) by decide +kernel), if_pos (show wI 0 = 0 by decide +kernel), if_neg (show ¬ wI 1 = 0 by decide +kernel), if_pos (show 0 ≤ wI 2 ∧ wI 2 < 132 by decide +kernel)] at hrr
  simp only [show (wI 2).toNat = 2 from rfl, show sX12_lowOf 2 = 1 by decide +kernel, show sX12_highOf 2 = 5 by decide +kernel] at hrr
  rw [a3, ob_s] at hrr
  rcases num2 aE aT aF (s := ((0 : Nat) : Int)) (k := 7) (i := 0) (r := 0) (lo := 1) (up := 5) (bu := (-1)) (by omega) (by decide) (by omega) (fun z => absurd rfl z) ⟨by omega, by omega⟩ ⟨by omega, by omega⟩ ⟨by omega, by omega⟩ (hok_p (by decide +kernel) (by decide +kernel) (by omega)) 99999 with ⟨x1, x2⟩ | ⟨C1, R1, f1, t1, k1, v0, x1, x2, p0_E, p0_T, p0_F, p0_o, p0_l, p0_A, p0_B, p0_c, p0_r, p0_0, p0_9, p0_g⟩
  · rw [show sX12_take 359 0 1 5 R0 = _ from take0 x2] at hrr
    exact outF (R' := mU R0 359 17 (f0 : Int)) (hrc.trans x1) (hrr.symm.trans rfl) aT.1.1 (mU_eq _ _ _ _) hH aW (XB_u (WB_X aV))
  rw [show sX12_take 359 0 1 5 R0 = _ from take1 x2, ob_s] at hrr
  dsimp only at hrr
  rw [i10] at hrr
  have hrc := hrc.trans x1
  have p0_W := WA_t aW (WA_n p0_A)
  have p0_V := WB_t aV (WB_n p0_B)
  have hrc := hrc.trans (numE (k := 7) (by omega) 99998)
  have h5 : C1 79 5 = 0 → (C 79 5 = 0) ∧ (1 ≤ v0 ∧ v0 ≤ 5 ∧ v0 ≠ -1) := by
    intro z
    obtain ⟨p0_q, p0_z⟩ := (gz p0_g).1 z
    exact ⟨aD p0_z, p0_q⟩
  have w370 : R1 370 = R 370 := p0_V.1 370 (by omega) (by omega)
  have w22 : R1 359 22 = R 359 22 := p0_V.2
  have hd : C 79 5 = 0 → (PC C 80 (R 370) ∧ PVd (R 370)) ∧ NR (C 79 12) (R 359 22) := fun z => hD z
  simp only [g359_21, g359_20] at hrr
  rw [p0_r, ob_s] at hrr
  refine outG (R' := mU R1 370 2 v0) hrc (hrr.symm.trans rfl) p0_E p0_T p0_F (by omega) (fun a _ h _ => mU_row _ _ h) (fun j _ => mU_ne _ _ (by omega)) ?_ p0_W (WB_X p0_V) hH (fun z C'' hrw h12 h114 => ?_)
  · unfold RB; rw [mU_ne (j := 0) _ _ (by omega), mU_ne (b := 359) _ _ (by omega), mU_ne (j := 1) _ _ (by omega), w370, w22]; exact hB
  · obtain ⟨z1, y0⟩ := h5 z
    have hC0 : C'' 114 0 = v0 := by rw [h114]; exact p0_c
    refine ⟨mU C'' 80 (12 + 0) v0, ?_, ?_, HM_u (HM_c hH (C' := C'') (fun a ha hb => hrw a (by omega) (by omega))) (by omega), fun a ha => mU_row _ _ (by omega), fun j hj => by rw [mU_row _ _ (by omega)]⟩
    · unfold sX7_keep sX7_keep_b0 sX7_keepOfParty sX7_keepOfParty_b0
      rw [show wI ((7 : Nat) : Int) = 7 by decide +kernel, if_neg (by omega), if_neg (by omega), if_neg (by omega), if_neg (by omega), if_neg (by omega), if_neg (by omega), if_neg (by omega), if_neg (by omega), if_pos rfl, g79_0, g79_7, hC0, ob_s, ob_s]
    · show (PC _ 80 _ ∧ PVd _) ∧ NR _ _
      refine ⟨d_plain (i := 0) (by omega) ⟨by unfold lowQ; simp; omega, by unfold highQ; simp; omega⟩ (fun j hj => by rw [mU_ne _ _ (by omega), w370]) (mU_eq _ _ _ _) ⟨PC_c (fun j hj => hrw _ (by omega) (by omega)) (hd z1).1.1, (hd z1).1.2⟩, ?_⟩
      rw [mU_row _ _ (by omega), mU_row _ _ (by omega), h12, w22]; exact (hd z1).2
theorem kl_8 {T : Nat → Int} {L f t : Nat} {C R : MM} (h : LNP T L 0 f t C R) : OUT T L 0 8 f C R (sX7_readsLine_b18 79 1 ((0 : Nat) : Int) ((8 : Nat) : Int) C) (sX12_partyLine 359 1818846836 (f : Int) R) := by
  obtain ⟨hE, hT, hF, hB, hH, hD, hg⟩ := h
  have hfu : sX7_isFull 79 ((8 : Nat) : Int) C = some 0 := fu_e hH (by omega)
  obtain ⟨C0, R0, f0, t0, k0, a1, a3, aE, aT, aF, aff, aW, aV, a23, a371, aD⟩ := head0 (s := ((0 : Nat) : Int)) (k := 8) hE hT hF (by omega) hfu
  generalize hrr : sX12_partyLine 359 1818846836 (f : Int) R = rr
  generalize hrc : sX7_readsLine_b18 79 1 ((0 : Nat) : Int) ((8 : Nat) : Int) C = rc
  rw [a1] at hrc
  have hrc := hrc.symm
  unfold sX12_partyLine sX12_partyLine_b0 sX12_partyLine_b30 sX12_partyLine_b35 sX12_partyLine_b85 sX12_partyLine_b119 sX12_partyLine_b163 sX12_partyLine_b177 at hrr
  rw [show sX12_plainOf 1818846836 = 3 by decide +kernel] at hrr
  simp only [if_neg (show ¬ wJ 1818846836 = 1885434484 by decide +kernel), if_neg (show ¬ wJ 1818846836 = 426953501796 by decide +kernel), if_neg (show ¬ wJ 1818846836 = 1667591276 by decide +kernel), if_neg (show ¬ wJ 1818846836 = 112641580559972 by decide +kernel), if_neg (show ¬ wJ 1818846836 = 6713189 by decide +kernel), if_neg (show ¬ wJ 1818846836 = 128047779833188 by decide +kernel), if_neg (show ¬ wJ 1818846836 = 1919512167 by decide +kernel), if_neg (show ¬ wJ 1818846836 = 422726039411 by decide +kernel), if_pos (show wJ 1818846836 = 1818846836 by decide +kernel), if_neg (show ¬ wJ 1818846836 = 126956639450227 by decide +kernel), if_neg (show ¬ wJ 1818846836 = 27691674476046181 by decide +kernel), if_neg (show ¬ wJ 1818846836 = 495874302827 by decide +kernel), if_neg (show ¬ wI 3 = (-1) by decide +kernel), if_pos (show wI 0 = 0 by decide +kernel), if_neg (show ¬ wI 1 = 0 by decide +kernel), if_pos (show 0 ≤ wI 3 ∧ wI 3 < 132 by decide +kernel)] at hrr
  simp only [show (wI 3).toNat = 3 from rfl, show sX12_lowOf 3 = 3 by decide +kernel, show sX12_highOf 3 = 16 by decide +kernel] at hrr
  rw [a3, ob_s] at hrr
  rcases num2 aE aT aF (s := ((0 : Nat) : Int)) (k := 8) (i := 0) (r := 0) (lo := 3) (up := 16) (bu := (-1)) (by omega) (by decide) (by omega) (fun z => absurd rfl z) ⟨by omega, by omega⟩ ⟨by omega, by omega⟩ ⟨by omega, by omega⟩ (hok_p (by decide +kernel) (by decide +kernel) (by omega)) 99999 with ⟨x1, x2⟩ | ⟨C1, R1, f1, t1, k1, v0, x1, x2, p0_E, p0_T, p0_F, p0_o, p0_l, p0_A, p0_B, p0_c, p0_r, p0_0, p0_9, p0_g⟩
  · rw [show sX12_take 359 0 3 16 R0 = _ from take0 x2] at hrr
    exact outF (R' := mU R0 359 17 (f0 : Int)) (hrc.trans x1) (hrr.symm.trans rfl) aT.1.1 (mU_eq _ _ _ _) hH aW (XB_u (WB_X aV))
  rw [show sX12_take 359 0 3 16 R0 = _ from take1 x2, ob_s] at hrr
  dsimp only at hrr
  rw [i10] at hrr
  have hrc := hrc.trans x1
  have p0_W := WA_t aW (WA_n p0_A)
  have p0_V := WB_t aV (WB_n p0_B)
  have hrc := hrc.trans (numE (k := 8) (by omega) 99998)
  have h5 : C1 79 5 = 0 → (C 79 5 = 0) ∧ (3 ≤ v0 ∧ v0 ≤ 16 ∧ v0 ≠ -1) := by
    intro z
    obtain ⟨p0_q, p0_z⟩ := (gz p0_g).1 z
    exact ⟨aD p0_z, p0_q⟩
  have w370 : R1 370 = R 370 := p0_V.1 370 (by omega) (by omega)
  have w22 : R1 359 22 = R 359 22 := p0_V.2
  have hd : C 79 5 = 0 → (PC C 80 (R 370) ∧ PVd (R 370)) ∧ NR (C 79 12) (R 359 22) := fun z => hD z
  simp only [g359_21, g359_20] at hrr
  rw [p0_r, ob_s] at hrr
  refine outG (R' := mU R1 370 3 v0) hrc (hrr.symm.trans rfl) p0_E p0_T p0_F (by omega) (fun a _ h _ => mU_row _ _ h) (fun j _ => mU_ne _ _ (by omega)) ?_ p0_W (WB_X p0_V) hH (fun z C'' hrw h12 h114 => ?_)
  · unfold RB; rw [mU_ne (j := 0) _ _ (by omega), mU_ne (b := 359) _ _ (by omega), mU_ne (j := 1) _ _ (by omega), w370, w22]; exact hB
  · obtain ⟨z1, y0⟩ := h5 z
    have hC0 : C'' 114 0 = v0 := by rw [h114]; exact p0_c
    refine ⟨mU C'' 80 (12 + 1) v0, ?_, ?_, HM_u (HM_c hH (C' := C'') (fun a ha hb => hrw a (by omega) (by omega))) (by omega), fun a ha => mU_row _ _ (by omega), fun j hj => by rw [mU_row _ _ (by omega)]⟩
    · unfold sX7_keep sX7_keep_b0 sX7_keepOfParty sX7_keepOfParty_b0
      rw [show wI ((8 : Nat) : Int) = 8 by decide +kernel, if_neg (by omega), if_neg (by omega), if_neg (by omega), if_neg (by omega), if_neg (by omega), if_neg (by omega), if_neg (by omega), if_neg (by omega), if_neg (by omega), if_pos rfl, g79_0, g79_7, hC0, ob_s, ob_s]
    · show (PC _ 80 _ ∧ PVd _) ∧ NR _ _
      refine ⟨d_plain (i := 1) (by omega) ⟨by unfold lowQ; simp; omega, by unfold highQ; simp; omega⟩ (fun j hj => by rw [mU_ne _ _ (by omega), w370]) (mU_eq _ _ _ _) ⟨PC_c (fun j hj => hrw _ (by omega) (by omega)) (hd z1).1.1, (hd z1).1.2⟩, ?_⟩
      rw [mU_row _ _ (by omega), mU_row _ _ (by omega), h12, w22]; exact (hd z1).2
theorem kl_9 {T : Nat → Int} {L f t : Nat} {C R : MM} (h : LNP T L 0 f t C R) : OUT T L 0 9 f C R (sX7_readsLine_b18 79 1 ((0 : Nat) : Int) ((9 : Nat) : Int) C) (sX12_partyLine 359 126956639450227 (f : Int) R) := by
  obtain ⟨hE, hT, hF, hB, hH, hD, hg⟩ := h
  have hfu : sX7_isFull 79 ((9 : Nat) : Int) C = some 0 := fu_e hH (by omega)
  obtain ⟨C0, R0, f0, t0, k0, a1, a3, aE, aT, aF, aff, aW, aV, a23, a371, aD⟩ := head0 (s := ((0 : Nat) : Int)) (k := 9) hE hT hF (by omega) hfu
  generalize hrr : sX12_partyLine 359 126956639450227 (f : Int) R = rr
  generalize hrc : sX7_readsLine_b18 79 1 ((0 : Nat) : Int) ((9 : Nat) : Int) C = rc
  rw [a1] at hrc
  have hrc := hrc.symm
  unfold sX12_partyLine sX12_partyLine_b0 sX12_partyLine_b30 sX12_partyLine_b35 sX12_partyLine_b85 sX12_partyLine_b119 sX12_partyLine_b163 sX12_partyLine_b177 at hrr
  rw [show sX12_plainOf 126956639450227 = 4 by decide +kernel] at hrr
  simp only [if_neg (show ¬ wJ 126956639450227 = 1885434484 by decide +kernel), if_neg (show ¬ wJ 126956639450227 = 426953501796 by decide +kernel), if_neg (show ¬ wJ 126956639450227 = 1667591276 by decide +kernel), if_neg (show ¬ wJ 126956639450227 = 112641580559972 by decide +kernel), if_neg (show ¬ wJ 126956639450227 = 6713189 by decide +kernel), if_neg (show ¬ wJ 126956639450227 = 128047779833188 by decide +kernel), if_neg (show ¬ wJ 126956639450227 = 1919512167 by decide +kernel), if_neg (show ¬ wJ 126956639450227 = 422726039411 by decide +kernel), if_neg (show ¬ wJ 126956639450227 = 1818846836 by decide +kernel), if_pos (show wJ 126956639450227 = 126956639450227 by decide +kernel), if_neg (show ¬ wJ 126956639450227 = 27691674476046181 by decide +kernel), if_neg (show ¬ wJ 126956639450227 = 495874302827 by decide +kernel), if_neg (show ¬ wI 4 = (-1) by decide +kernel), if_pos (show wI 0 = 0 by decide +kernel), if_neg (show ¬ wI 1 = 0 by decide +kernel), if_pos (show 0 ≤ wI 4 ∧ wI 4 < 132 by decide +kernel)] at hrr
  simp only [show (wI 4).toNat = 4 from rfl, show sX12_lowOf 4 = 0 by decide +kernel, show sX12_highOf 4 = 60 by decide +kernel] at hrr
  rw [a3, ob_s] at hrr
  rcases num2 aE aT aF (s := ((0 : Nat) : Int)) (k := 9) (i := 0) (r := 0) (lo := 0) (up := 60) (bu := (-1)) (by omega) (by decide) (by omega) (fun z => absurd rfl z) ⟨by omega, by omega⟩ ⟨by omega, by omega⟩ ⟨by omega, by omega⟩ (hok_p (by decide +kernel) (by decide +kernel) (by omega)) 99999 with ⟨x1, x2⟩ | ⟨C1, R1, f1, t1, k1, v0, x1, x2, p0_E, p0_T, p0_F, p0_o, p0_l, p0_A, p0_B, p0_c, p0_r, p0_0, p0_9, p0_g⟩
  · rw [show sX12_take 359 0 0 60 R0 = _ from take0 x2] at hrr
    exact outF (R' := mU R0 359 17 (f0 : Int)) (hrc.trans x1) (hrr.symm.trans rfl) aT.1.1 (mU_eq _ _ _ _) hH aW (XB_u (WB_X aV))
  rw [show sX12_take 359 0 0 60 R0 = _ from take1 x2, ob_s] at hrr
  dsimp only at hrr
  rw [i10] at hrr
  have hrc := hrc.trans x1
  have p0_W := WA_t aW (WA_n p0_A)
  have p0_V := WB_t aV (WB_n p0_B)
  have hrc := hrc.trans (numE (k := 9) (by omega) 99998)
  have h5 : C1 79 5 = 0 → (C 79 5 = 0) ∧ (0 ≤ v0 ∧ v0 ≤ 60 ∧ v0 ≠ -1) := by
    intro z
    obtain ⟨p0_q, p0_z⟩ := (gz p0_g).1 z
    exact ⟨aD p0_z, p0_q⟩
  have w370 : R1 370 = R 370 := p0_V.1 370 (by omega) (by omega)
  have w22 : R1 359 22 = R 359 22 := p0_V.2
  have hd : C 79 5 = 0 → (PC C 80 (R 370) ∧ PVd (R 370)) ∧ NR (C 79 12) (R 359 22) := fun z => hD z
  simp only [g359_21, g359_20] at hrr
  rw [p0_r, ob_s] at hrr
  refine outG (R' := mU R1 370 4 v0) hrc (hrr.symm.trans rfl) p0_E p0_T p0_F (by omega) (fun a _ h _ => mU_row _ _ h) (fun j _ => mU_ne _ _ (by omega)) ?_ p0_W (WB_X p0_V) hH (fun z C'' hrw h12 h114 => ?_)
  · unfold RB; rw [mU_ne (j := 0) _ _ (by omega), mU_ne (b := 359) _ _ (by omega), mU_ne (j := 1) _ _ (by omega), w370, w22]; exact hB
  · obtain ⟨z1, y0⟩ := h5 z
    have hC0 : C'' 114 0 = v0 := by rw [h114]; exact p0_c
    refine ⟨mU C'' 80 (12 + 2) v0, ?_, ?_, HM_u (HM_c hH (C' := C'') (fun a ha hb => hrw a (by omega) (by omega))) (by omega), fun a ha => mU_row _ _ (by omega), fun j hj => by rw [mU_row _ _ (by omega)]⟩
    · unfold sX7_keep sX7_keep_b0 sX7_keepOfParty sX7_keepOfParty_b0
      rw [show wI ((9 : Nat) : Int) = 9 by decide +kernel, if_neg (by omega), if_neg (by omega), if_neg (by omega), if_neg (by omega), if_neg (by omega), if_neg (by omega), if_neg (by omega), if_neg (by omega), if_neg (by omega), if_neg (by omega), if_pos rfl, g79_0, g79_7, hC0, ob_s, ob_s]
    · show (PC _ 80 _ ∧ PVd _) ∧ NR _ _
      refine ⟨d_plain (i := 2) (by omega) ⟨by unfold lowQ; simp; omega, by unfold highQ; simp; omega⟩ (fun j hj => by rw [mU_ne _ _ (by omega), w370]) (mU_eq _ _ _ _) ⟨PC_c (fun j hj => hrw _ (by omega) (by omega)) (hd z1).1.1, (hd z1).1.2⟩, ?_⟩
      rw [mU_row _ _ (by omega), mU_row _ _ (by omega), h12, w22]; exact (hd z1).2
theorem kl_10 {T : Nat → Int} {L f t : Nat} {C R : MM} (h : LNP T L 0 f t C R) : OUT T L 0 10 f C R (sX7_readsLine_b18 79 1 ((0 : Nat) : Int) ((10 : Nat) : Int) C) (sX12_partyLine 359 27691674476046181 (f : Int) R) := by
  obtain ⟨hE, hT, hF, hB, hH, hD, hg⟩ := h
  have hfu : sX7_isFull 79 ((10 : Nat) : Int) C = some 0 := fu_e hH (by omega)
  obtain ⟨C0, R0, f0, t0, k0, a1, a3, aE, aT, aF, aff, aW, aV, a23, a371, aD⟩ := head0 (s := ((0 : Nat) : Int)) (k := 10) hE hT hF (by omega) hfu
  generalize hrr : sX12_partyLine 359 27691674476046181 (f : Int) R = rr
  generalize hrc : sX7_readsLine_b18 79 1 ((0 : Nat) : Int) ((10 : Nat) : Int) C = rc
  rw [a1] at hrc
  have hrc := hrc.symm
  unfold sX12_partyLine sX12_partyLine_b0 sX12_partyLine_b30 sX12_partyLine_b35 sX12_partyLine_b85 sX12_partyLine_b119 sX12_partyLine_b163 sX12_partyLine_b177 at hrr
  rw [show sX12_plainOf 27691674476046181 = 5 by decide +kernel] at hrr
  simp only [if_neg (show ¬ wJ 27691674476046181 = 1885434484 by decide +kernel), if_neg (show ¬ wJ 27691674476046181 = 426953501796 by decide +kernel), if_neg (show ¬ wJ 27691674476046181 = 1667591276 by decide +kernel), if_neg (show ¬ wJ 27691674476046181 = 112641580559972 by decide +kernel), if_neg (show ¬ wJ 27691674476046181 = 6713189 by decide +kernel), if_neg (show ¬ wJ 27691674476046181 = 128047779833188 by decide +kernel), if_neg (show ¬ wJ 27691674476046181 = 1919512167 by decide +kernel), if_neg (show ¬ wJ 27691674476046181 = 422726039411 by decide +kernel), if_neg (show ¬ wJ 27691674476046181 = 1818846836 by decide +kernel), if_neg (show ¬ wJ 27691674476046181 = 126956639450227 by decide +kernel), if_pos (show wJ 27691674476046181 = 27691674476046181 by decide +kernel), if_neg (show ¬ wJ 27691674476046181 = 495874302827 by decide +kernel), if_neg (show ¬ wI 5 = (-1) by decide +kernel), if_pos (show wI 0 = 0 by decide +kernel), if_neg (show ¬ wI 1 = 0 by decide +kernel), if_pos (show 0 ≤ wI 5 ∧ wI 5 < 132 by decide +kernel)] at hrr
  simp only [show (wI 5).toNat = 5 from rfl, show sX12_lowOf 5 = 0 by decide +kernel, show sX12_highOf 5 = 9 by decide +kernel] at hrr
  rw [a3, ob_s] at hrr
  rcases num2 aE aT aF (s := ((0 : Nat) : Int)) (k := 10) (i := 0) (r := 0) (lo := 0) (up := 9) (bu := (-1)) (by omega) (by decide) (by omega) (fun z => absurd rfl z) ⟨by omega, by omega⟩ ⟨by omega, by omega⟩ ⟨by omega, by omega⟩ (hok_p (by decide +kernel) (by decide +kernel) (by omega)) 99999 with ⟨x1, x2⟩ | ⟨C1, R1, f1, t1, k1, v0, x1, x2, p0_E, p0_T, p0_F, p0_o, p0_l, p0_A, p0_B, p0_c, p0_r, p0_0, p0_9, p0_g⟩
  · rw [show sX12_take 359 0 0 9 R0 = _ from take0 x2] at hrr
    exact outF (R' := mU R0 359 17 (f0 : Int)) (hrc.trans x1) (hrr.symm.trans rfl) aT.1.1 (mU_eq _ _ _ _) hH aW (XB_u (WB_X aV))
  rw [show sX12_take 359 0 0 9 R0 = _ from take1 x2, ob_s] at hrr
  dsimp only at hrr
  rw [i10] at hrr
  have hrc := hrc.trans x1
  have p0_W := WA_t aW (WA_n p0_A)
  have p0_V := WB_t aV (WB_n p0_B)
  have hrc := hrc.trans (numE (k := 10) (by omega) 99998)
  have h5 : C1 79 5 = 0 → (C 79 5 = 0) ∧ (0 ≤ v0 ∧ v0 ≤ 9 ∧ v0 ≠ -1) := by
    intro z
    obtain ⟨p0_q, p0_z⟩ := (gz p0_g).1 z
    exact ⟨aD p0_z, p0_q⟩
  have w370 : R1 370 = R 370 := p0_V.1 370 (by omega) (by omega)
  have w22 : R1 359 22 = R 359 22 := p0_V.2
  have hd : C 79 5 = 0 → (PC C 80 (R 370) ∧ PVd (R 370)) ∧ NR (C 79 12) (R 359 22) := fun z => hD z
  simp only [g359_21, g359_20] at hrr
  rw [p0_r, ob_s] at hrr
  refine outG (R' := mU R1 370 5 v0) hrc (hrr.symm.trans rfl) p0_E p0_T p0_F (by omega) (fun a _ h _ => mU_row _ _ h) (fun j _ => mU_ne _ _ (by omega)) ?_ p0_W (WB_X p0_V) hH (fun z C'' hrw h12 h114 => ?_)
  · unfold RB; rw [mU_ne (j := 0) _ _ (by omega), mU_ne (b := 359) _ _ (by omega), mU_ne (j := 1) _ _ (by omega), w370, w22]; exact hB
  · obtain ⟨z1, y0⟩ := h5 z
    have hC0 : C'' 114 0 = v0 := by rw [h114]; exact p0_c
    refine ⟨mU C'' 80 (12 + 3) v0, ?_, ?_, HM_u (HM_c hH (C' := C'') (fun a ha hb => hrw a (by omega) (by omega))) (by omega), fun a ha => mU_row _ _ (by omega), fun j hj => by rw [mU_row _ _ (by omega)]⟩
    · unfold sX7_keep sX7_keep_b0 sX7_keepOfParty sX7_keepOfParty_b0
      rw [show wI ((10 : Nat) : Int) = 10 by decide +kernel, if_neg (by omega), if_neg (by omega), if_neg (by omega), if_neg (by omega), if_neg (by omega), if_neg (by omega), if_neg (by omega), if_neg (by omega), if_neg (by omega), if_neg (by omega), if_neg (by omega), if_pos rfl, g79_0, g79_7, hC0, ob_s, ob_s]
    · show (PC _ 80 _ ∧ PVd _) ∧ NR _ _
      refine ⟨d_plain (i := 3) (by omega) ⟨by unfold lowQ; simp; omega, by unfold highQ; simp; omega⟩ (fun j hj => by rw [mU_ne _ _ (by omega), w370]) (mU_eq _ _ _ _) ⟨PC_c (fun j hj => hrw _ (by omega) (by omega)) (hd z1).1.1, (hd z1).1.2⟩, ?_⟩
      rw [mU_row _ _ (by omega), mU_row _ _ (by omega), h12, w22]; exact (hd z1).2
theorem kl_11 {T : Nat → Int} {L f t : Nat} {C R : MM} (h : LNP T L 0 f t C R) : OUT T L 0 11 f C R (sX7_readsLine_b18 79 1 ((0 : Nat) : Int) ((11 : Nat) : Int) C) (sX12_partyLine 359 495874302827 (f : Int) R) := by
  obtain ⟨hE, hT, hF, hB, hH, hD, hg⟩ := h
  have hfu : sX7_isFull 79 ((11 : Nat) : Int) C = some 0 := fu_e hH (by omega)
  obtain ⟨C0, R0, f0, t0, k0, a1, a3, aE, aT, aF, aff, aW, aV, a23, a371, aD⟩ := head0 (s := ((0 : Nat) : Int)) (k := 11) hE hT hF (by omega) hfu
  generalize hrr : sX12_partyLine 359 495874302827 (f : Int) R = rr
  generalize hrc : sX7_readsLine_b18 79 1 ((0 : Nat) : Int) ((11 : Nat) : Int) C = rc
  rw [a1] at hrc
  have hrc := hrc.symm
  unfold sX12_partyLine sX12_partyLine_b0 sX12_partyLine_b30 sX12_partyLine_b35 sX12_partyLine_b85 sX12_partyLine_b119 sX12_partyLine_b163 sX12_partyLine_b177 at hrr
  rw [show sX12_plainOf 495874302827 = 6 by decide +kernel] at hrr
  simp only [if_neg (show ¬ wJ 495874302827 = 1885434484 by decide +kernel), if_neg (show ¬ wJ 495874302827 = 426953501796 by decide +kernel), if_neg (show ¬ wJ 495874302827 = 1667591276 by decide +kernel), if_neg (show ¬ wJ 495874302827 = 112641580559972 by decide +kernel), if_neg (show ¬ wJ 495874302827 = 6713189 by decide +kernel), if_neg (show ¬ wJ 495874302827 = 128047779833188 by decide +kernel), if_neg (show ¬ wJ 495874302827 = 1919512167 by decide +kernel), if_neg (show ¬ wJ 495874302827 = 422726039411 by decide +kernel), if_neg (show ¬ wJ 495874302827 = 1818846836 by decide +kernel), if_neg (show ¬ wJ 495874302827 = 126956639450227 by decide +kernel), if_neg (show ¬ wJ 495874302827 = 27691674476046181 by decide +kernel), if_pos (show wJ 495874302827 = 495874302827 by decide +kernel), if_neg (show ¬ wI 6 = (-1) by decide +kernel), if_pos (show wI 0 = 0 by decide +kernel), if_neg (show ¬ wI 1 = 0 by decide +kernel), if_pos (show 0 ≤ wI 6 ∧ wI 6 < 132 by decide +kernel)] at hrr
  simp only [show (wI 6).toNat = 6 from rfl, show sX12_lowOf 6 = 0 by decide +kernel, show sX12_highOf 6 = 3 by decide +kernel] at hrr
  rw [a3, ob_s] at hrr
  rcases num2 aE aT aF (s := ((0 : Nat) : Int)) (k := 11) (i := 0) (r := 0) (lo := 0) (up := 3) (bu := (-1)) (by omega) (by decide) (by omega) (fun z => absurd rfl z) ⟨by omega, by omega⟩ ⟨by omega, by omega⟩ ⟨by omega, by omega⟩ (hok_p (by decide +kernel) (by decide +kernel) (by omega)) 99999 with ⟨x1, x2⟩ | ⟨C1, R1, f1, t1, k1, v0, x1, x2, p0_E, p0_T, p0_F, p0_o, p0_l, p0_A, p0_B, p0_c, p0_r, p0_0, p0_9, p0_g⟩
  · rw [show sX12_take 359 0 0 3 R0 = _ from take0 x2] at hrr
    exact outF (R' := mU R0 359 17 (f0 : Int)) (hrc.trans x1) (hrr.symm.trans rfl) aT.1.1 (mU_eq _ _ _ _) hH aW (XB_u (WB_X aV))
  rw [show sX12_take 359 0 0 3 R0 = _ from take1 x2, ob_s] at hrr
  dsimp only at hrr
  rw [i10] at hrr
  have hrc := hrc.trans x1
  have p0_W := WA_t aW (WA_n p0_A)
  have p0_V := WB_t aV (WB_n p0_B)
  have hrc := hrc.trans (numE (k := 11) (by omega) 99998)
  have h5 : C1 79 5 = 0 → (C 79 5 = 0) ∧ (0 ≤ v0 ∧ v0 ≤ 3 ∧ v0 ≠ -1) := by
    intro z
    obtain ⟨p0_q, p0_z⟩ := (gz p0_g).1 z
    exact ⟨aD p0_z, p0_q⟩
  have w370 : R1 370 = R 370 := p0_V.1 370 (by omega) (by omega)
  have w22 : R1 359 22 = R 359 22 := p0_V.2
  have hd : C 79 5 = 0 → (PC C 80 (R 370) ∧ PVd (R 370)) ∧ NR (C 79 12) (R 359 22) := fun z => hD z
  simp only [g359_21, g359_20] at hrr
  rw [p0_r, ob_s] at hrr
  refine outG (R' := mU R1 370 6 v0) hrc (hrr.symm.trans rfl) p0_E p0_T p0_F (by omega) (fun a _ h _ => mU_row _ _ h) (fun j _ => mU_ne _ _ (by omega)) ?_ p0_W (WB_X p0_V) hH (fun z C'' hrw h12 h114 => ?_)
  · unfold RB; rw [mU_ne (j := 0) _ _ (by omega), mU_ne (b := 359) _ _ (by omega), mU_ne (j := 1) _ _ (by omega), w370, w22]; exact hB
  · obtain ⟨z1, y0⟩ := h5 z
    have hC0 : C'' 114 0 = v0 := by rw [h114]; exact p0_c
    refine ⟨mU C'' 80 (12 + 4) v0, ?_, ?_, HM_u (HM_c hH (C' := C'') (fun a ha hb => hrw a (by omega) (by omega))) (by omega), fun a ha => mU_row _ _ (by omega), fun j hj => by rw [mU_row _ _ (by omega)]⟩
    · unfold sX7_keep sX7_keep_b0 sX7_keepOfParty sX7_keepOfParty_b0
      rw [show wI ((11 : Nat) : Int) = 11 by decide +kernel, if_neg (by omega), if_neg (by omega), if_neg (by omega), if_neg (by omega), if_neg (by omega), if_neg (by omega), if_neg (by omega), if_neg (by omega), if_neg (by omega), if_neg (by omega), if_neg (by omega), if_neg (by omega), g79_0, g79_7, hC0, ob_s, ob_s]
    · show (PC _ 80 _ ∧ PVd _) ∧ NR _ _
      refine ⟨d_plain (i := 4) (by omega) ⟨by unfold lowQ; simp; omega, by unfold highQ; simp; omega⟩ (fun j hj => by rw [mU_ne _ _ (by omega), w370]) (mU_eq _ _ _ _) ⟨PC_c (fun j hj => hrw _ (by omega) (by omega)) (hd z1).1.1, (hd z1).1.2⟩, ?_⟩
      rw [mU_row _ _ (by omega), mU_row _ _ (by omega), h12, w22]; exact (hd z1).2
