theorem OUT_w {T : Nat → Int} {L s k f0 : Nat} {C0 R0 : MM} {rc rr : Option (Int × MM)} (h : OUT T L s k f0 C0 R0 rc rr) : OUT T L s k f0 C0 R0 rc (rr.bind fun q => if q.1 = 0 ∨ q.1 = 1 then some (q.1, q.2) else none) := by
  rcases h with ⟨C', R', g, h1, h2, h3⟩ | ⟨C', R', f, t, kk, h1, h2, h3⟩
  · exact Or.inl ⟨C', R', g, h1, by rw [h2]; rfl, h3⟩
  · exact Or.inr ⟨C', R', f, t, kk, h1, by rw [h2]; rfl, h3⟩
theorem ln_0 {T : Nat → Int} {L f t k : Nat} {C R : MM} (h : LNP T L 0 f t C R) (h1 : 0 ≤ k) (h2 : k < 12) : OUT T L 0 k f C R (sX7_readsLine_b18 79 1 ((0 : Nat) : Int) (k : Int) C) (sX12_lineOf 359 ((0 : Nat) : Int) (cW.getD k 0) (f : Int) R) := by
  unfold sX12_lineOf sX12_lineOf_b0
  rw [if_pos (by decide +kernel)]
  rcases (show k = 0 ∨ k = 1 ∨ k = 2 ∨ k = 3 ∨ k = 4 ∨ k = 5 ∨ k = 6 ∨ k = 7 ∨ k = 8 ∨ k = 9 ∨ k = 10 ∨ k = 11 by omega) with rfl | rfl | rfl | rfl | rfl | rfl | rfl | rfl | rfl | rfl | rfl | rfl
  · exact OUT_w (kl_0 h)
  · exact OUT_w (kl_1 h)
  · exact OUT_w (kl_2 h)
  · exact OUT_w (kl_3 h)
  · exact OUT_w (kl_4 h)
  · exact OUT_w (kl_5 h)
  · exact OUT_w (kl_6 h)
  · exact OUT_w (kl_7 h)
  · exact OUT_w (kl_8 h)
  · exact OUT_w (kl_9 h)
  · exact OUT_w (kl_10 h)
  · exact OUT_w (kl_11 h)
theorem ln_1 {T : Nat → Int} {L f t k : Nat} {C R : MM} (h : LNP T L 1 f t C R) (h1 : 12 ≤ k) (h2 : k < 18) : OUT T L 1 k f C R (sX7_readsLine_b18 79 1 ((1 : Nat) : Int) (k : Int) C) (sX12_lineOf 359 ((1 : Nat) : Int) (cW.getD k 0) (f : Int) R) := by
  unfold sX12_lineOf sX12_lineOf_b0
  rw [if_neg (by decide +kernel), if_pos (by decide +kernel)]
  rcases (show k = 12 ∨ k = 13 ∨ k = 14 ∨ k = 15 ∨ k = 16 ∨ k = 17 by omega) with rfl | rfl | rfl | rfl | rfl | rfl
  · exact OUT_w (kl_12 h)
  · exact OUT_w (kl_13 h)
  · exact OUT_w (kl_14 h)
  · exact OUT_w (kl_15 h)
  · exact OUT_w (kl_16 h)
  · exact OUT_w (kl_17 h)
theorem ln_2 {T : Nat → Int} {L f t k : Nat} {C R : MM} (h : LNP T L 2 f t C R) (h1 : 18 ≤ k) (h2 : k < 23) : OUT T L 2 k f C R (sX7_readsLine_b18 79 1 ((2 : Nat) : Int) (k : Int) C) (sX12_lineOf 359 ((2 : Nat) : Int) (cW.getD k 0) (f : Int) R) := by
  unfold sX12_lineOf sX12_lineOf_b0
  rw [if_neg (by decide +kernel), if_neg (by decide +kernel), if_pos (by decide +kernel)]
  rcases (show k = 18 ∨ k = 19 ∨ k = 20 ∨ k = 21 ∨ k = 22 by omega) with rfl | rfl | rfl | rfl | rfl
  · exact OUT_w (kl_18 h)
  · exact OUT_w (kl_19 h)
  · exact OUT_w (kl_20 h)
  · exact OUT_w (kl_21 h)
  · exact OUT_w (kl_22 h)
theorem ln_3 {T : Nat → Int} {L f t k : Nat} {C R : MM} (h : LNP T L 3 f t C R) (h1 : 23 ≤ k) (h2 : k < 24) : OUT T L 3 k f C R (sX7_readsLine_b18 79 1 ((3 : Nat) : Int) (k : Int) C) (sX12_lineOf 359 ((3 : Nat) : Int) (cW.getD k 0) (f : Int) R) := by
  unfold sX12_lineOf sX12_lineOf_b0
  rw [if_neg (by decide +kernel), if_neg (by decide +kernel), if_neg (by decide +kernel), if_pos (by decide +kernel)]
  have e : k = 23 := by omega
  subst e
  exact OUT_w (kl_23 h)
theorem ln_4 {T : Nat → Int} {L f t k : Nat} {C R : MM} (h : LNP T L 4 f t C R) (h1 : 24 ≤ k) (h2 : k < 28) : OUT T L 4 k f C R (sX7_readsLine_b18 79 1 ((4 : Nat) : Int) (k : Int) C) (sX12_lineOf 359 ((4 : Nat) : Int) (cW.getD k 0) (f : Int) R) := by
  unfold sX12_lineOf sX12_lineOf_b0
  rw [if_neg (by decide +kernel), if_neg (by decide +kernel), if_neg (by decide +kernel), if_neg (by decide +kernel)]
  rcases (show k = 24 ∨ k = 25 ∨ k = 26 ∨ k = 27 by omega) with rfl | rfl | rfl | rfl
  · exact OUT_w (kl_24 h)
  · exact OUT_w (kl_25 h)
  · exact OUT_w (kl_26 h)
  · exact OUT_w (kl_27 h)
theorem ln_a {T : Nat → Int} {L s f t k : Nat} {C R : MM} (h : LNP T L s f t C R) (hs : s < 5) (h1 : fK s ≤ k) (h2 : k < fK (s + 1)) : OUT T L s k f C R (sX7_readsLine_b18 79 1 (s : Int) (k : Int) C) (sX12_lineOf 359 (s : Int) (cW.getD k 0) (f : Int) R) := by
  rcases (show s = 0 ∨ s = 1 ∨ s = 2 ∨ s = 3 ∨ s = 4 by omega) with rfl | rfl | rfl | rfl | rfl
  · exact ln_0 h h1 h2
  · exact ln_1 h h1 h2
  · exact ln_2 h h1 h2
  · exact ln_3 h h1 h2
  · exact ln_4 h h1 h2
theorem fa_w {R : MM} : ((sX12_fails 359 R).bind fun q => if q.1 = 0 ∨ q.1 = 1 then some (q.1, q.2) else none) = some (0, mU R 359 17 (R 359 13)) := rfl
theorem fa_x {R : MM} : ((((sX12_fails 359 R).bind fun q => if q.1 = 0 ∨ q.1 = 1 then some (q.1, q.2) else none)).bind fun q => if q.1 = 0 ∨ q.1 = 1 then some (q.1, q.2) else none) = some (0, mU R 359 17 (R 359 13)) := rfl
theorem nfl_0 {R : MM} {y x : Int} (hw : wJ y = y) (hne : ∀ k, 0 ≤ k → k < 12 → y ≠ cW.getD k 0) : sX12_lineOf 359 ((0 : Nat) : Int) y x R = some (0, mU R 359 17 (R 359 13)) := by
  have n0 : ¬ wJ y = 1885434484 := by rw [hw]; exact hne 0 (by omega) (by omega)
  have n1 : ¬ wJ y = 426953501796 := by rw [hw]; exact hne 1 (by omega) (by omega)
  have n2 : ¬ wJ y = 1667591276 := by rw [hw]; exact hne 2 (by omega) (by omega)
  have n3 : ¬ wJ y = 112641580559972 := by rw [hw]; exact hne 3 (by omega) (by omega)
  have n4 : ¬ wJ y = 6713189 := by rw [hw]; exact hne 4 (by omega) (by omega)
  have n5 : ¬ wJ y = 128047779833188 := by rw [hw]; exact hne 5 (by omega) (by omega)
  have n6 : ¬ wJ y = 1919512167 := by rw [hw]; exact hne 6 (by omega) (by omega)
  have n7 : ¬ wJ y = 422726039411 := by rw [hw]; exact hne 7 (by omega) (by omega)
  have n8 : ¬ wJ y = 1818846836 := by rw [hw]; exact hne 8 (by omega) (by omega)
  have n9 : ¬ wJ y = 126956639450227 := by rw [hw]; exact hne 9 (by omega) (by omega)
  have n10 : ¬ wJ y = 27691674476046181 := by rw [hw]; exact hne 10 (by omega) (by omega)
  have n11 : ¬ wJ y = 495874302827 := by rw [hw]; exact hne 11 (by omega) (by omega)
  unfold sX12_lineOf sX12_lineOf_b0
  rw [if_pos (by decide +kernel)]
  unfold sX12_partyLine sX12_partyLine_b0 sX12_partyLine_b35
  rw [show sX12_plainOf y = -1 by unfold sX12_plainOf sX12_plainOf_b0; rw [if_neg n7, if_neg n8, if_neg n9, if_neg n10, if_neg n11], if_neg n2, if_neg n3, if_neg n4, if_pos (show wI (-1) = -1 by decide +kernel), i00, if_neg n0, if_neg n1, if_neg n5, if_neg n6]
  exact fa_x
theorem nfl_1 {R : MM} {y x : Int} (hw : wJ y = y) (hne : ∀ k, 12 ≤ k → k < 18 → y ≠ cW.getD k 0) : sX12_lineOf 359 ((1 : Nat) : Int) y x R = some (0, mU R 359 17 (R 359 13)) := by
  have n12 : ¬ wJ y = 26479 := by rw [hw]; exact hne 12 (by omega) (by omega)
  have n13 : ¬ wJ y = 1717658469 := by rw [hw]; exact hne 13 (by omega) (by omega)
  have n14 : ¬ wJ y = 126943972911973 := by rw [hw]; exact hne 14 (by omega) (by omega)
  have n15 : ¬ wJ y = 30064 := by rw [hw]; exact hne 15 (by omega) (by omega)
  have n16 : ¬ wJ y = 1685026670 := by rw [hw]; exact hne 16 (by omega) (by omega)
  have n17 : ¬ wJ y = 6518132 := by rw [hw]; exact hne 17 (by omega) (by omega)
  unfold sX12_lineOf sX12_lineOf_b0
  rw [if_neg (by decide +kernel), if_pos (by decide +kernel)]
  unfold sX12_bookLine sX12_bookLine_b0
  rw [show sX12_deedBy y = -1 by unfold sX12_deedBy sX12_deedBy_b0; rw [if_neg n12, if_neg n13, if_neg n14, if_neg n15, if_neg n16, if_neg n17], if_pos (show wI (-1) = -1 by decide +kernel)]
  exact fa_x
theorem nfl_2 {R : MM} {y x : Int} (hw : wJ y = y) (hne : ∀ k, 18 ≤ k → k < 23 → y ≠ cW.getD k 0) : sX12_lineOf 359 ((2 : Nat) : Int) y x R = some (0, mU R 359 17 (R 359 13)) := by
  have n18 : ¬ wJ y = 1935767923 := by rw [hw]; exact hne 18 (by omega) (by omega)
  have n19 : ¬ wJ y = 6383986 := by rw [hw]; exact hne 19 (by omega) (by omega)
  have n20 : ¬ wJ y = 444300622437 := by rw [hw]; exact hne 20 (by omega) (by omega)
  have n21 : ¬ wJ y = 126931137819237 := by rw [hw]; exact hne 21 (by omega) (by omega)
  have n22 : ¬ wJ y = 500136506472 := by rw [hw]; exact hne 22 (by omega) (by omega)
  unfold sX12_lineOf sX12_lineOf_b0
  rw [if_neg (by decide +kernel), if_neg (by decide +kernel), if_pos (by decide +kernel)]
  unfold sX12_clueLine sX12_clueLine_b0 sX12_clueLine_b49
  rw [if_neg n18, if_neg n19, if_neg n20, if_neg n21, if_pos (show wI (-1) = -1 by decide +kernel), if_neg n22]
  exact fa_x
theorem nfl_3 {R : MM} {y x : Int} (hw : wJ y = y) (hne : ∀ k, 23 ≤ k → k < 24 → y ≠ cW.getD k 0) : sX12_lineOf 359 ((3 : Nat) : Int) y x R = some (0, mU R 359 17 (R 359 13)) := by
  have n23 : ¬ wJ y = 1717922924 := by rw [hw]; exact hne 23 (by omega) (by omega)
  unfold sX12_lineOf sX12_lineOf_b0
  rw [if_neg (by decide +kernel), if_neg (by decide +kernel), if_neg (by decide +kernel), if_pos (by decide +kernel)]
  unfold sX12_groundLine sX12_groundLine_b0
  rw [if_neg n23]
  exact fa_x
theorem nfl_4 {R : MM} {y x : Int} (hw : wJ y = y) (hne : ∀ k, 24 ≤ k → k < 28 → y ≠ cW.getD k 0) : sX12_lineOf 359 ((4 : Nat) : Int) y x R = some (0, mU R 359 17 (R 359 13)) := by
  have n24 : ¬ wJ y = 1953658213 := by rw [hw]; exact hne 24 (by omega) (by omega)
  have n25 : ¬ wJ y = 439721161573 := by rw [hw]; exact hne 25 (by omega) (by omega)
  have n26 : ¬ wJ y = 6842740 := by rw [hw]; exact hne 26 (by omega) (by omega)
  have n27 : ¬ wJ y = 1835627379 := by rw [hw]; exact hne 27 (by omega) (by omega)
  unfold sX12_lineOf sX12_lineOf_b0
  rw [if_neg (by decide +kernel), if_neg (by decide +kernel), if_neg (by decide +kernel), if_neg (by decide +kernel)]
  unfold sX12_recordLine sX12_recordLine_b0 sX12_recordLine_b21
  rw [if_neg n24, if_neg n25, i00, if_neg n26, if_neg n27]
  exact fa_x
theorem nfl_a {s : Nat} {R : MM} {y x : Int} (hs : s < 5) (hw : wJ y = y) (hne : ∀ k, fK s ≤ k → k < fK (s + 1) → y ≠ cW.getD k 0) : sX12_lineOf 359 (s : Int) y x R = some (0, mU R 359 17 (R 359 13)) := by
  rcases (show s = 0 ∨ s = 1 ∨ s = 2 ∨ s = 3 ∨ s = 4 by omega) with rfl | rfl | rfl | rfl | rfl
  · exact nfl_0 hw hne
  · exact nfl_1 hw hne
  · exact nfl_2 hw hne
  · exact nfl_3 hw hne
  · exact nfl_4 hw hne
theorem wd_w {T : Nat → Int} {f t : Nat} (h : ∀ j, f ≤ j → j < t → isL (T j)) : wJ (wd T f t) = wd T f t := by
  unfold wd
  by_cases h8 : t - f ≤ 8
  · obtain ⟨a1, a2⟩ := pk_b (T := T) (f := f) (t - f) h8 (fun j hj hj' => h j hj (by omega))
    have h9 : (256 : Int) ^ (t - f) ≤ 18446744073709551616 := by
      generalize t - f = n at h8
      rcases (show n = 0 ∨ n = 1 ∨ n = 2 ∨ n = 3 ∨ n = 4 ∨ n = 5 ∨ n = 6 ∨ n = 7 ∨ n = 8 by omega) with rfl | rfl | rfl | rfl | rfl | rfl | rfl | rfl | rfl <;> decide
    rw [if_pos h8]
    exact wJ_of (by omega) (by omega)
  · rw [if_neg h8]; exact wJ_of (by omega) (by omega)
/-- between lines -/
def BL (T : Nat → Int) (L s f t : Nat) (kk : Int) (C R : MM) : Prop := ENV T L C R ∧ TT T L f t kk C R ∧ FF f C R ∧ RB s R ∧ HM C ∧ (C 79 5 = 0 → DR s C R)
theorem fin0 {s : Int} {n : Nat} {R : MM} : sX12_lines_b2 359 s (n + 1) 0 R = some (0, R) := by
  rw [sX12_lines_b2, i00]
  unfold sX12_lines_b74
  exact if_pos (Or.inl rfl)
theorem line1 {T : Nat → Int} {L s f t : Nat} {kk : Int} {C R : MM} (h : BL T L s f t kk C R) (hs : s < 5) (hk : kk ≠ 0) (n : Nat) : (∃ C' R', ∃ g : Nat, sX7_readsLine 79 1 (s : Int) C = some (0, C') ∧ sX12_lines_b2 359 (s : Int) (n + 2) 1 R = some (0, R') ∧ C' 79 9 = (g : Int) ∧ R' 359 17 = (g : Int) ∧ XA C C' ∧ XB R R' ∧ HM C') ∨ (∃ C' R' f' t' kk', sX7_readsLine 79 1 (s : Int) C = some (1, C') ∧ sX12_lines_b2 359 (s : Int) (n + 2) 1 R = sX12_lines_b2 359 (s : Int) (n + 1) 1 R' ∧ BL T L s f' t' kk' C' R' ∧ f < f' ∧ XA C C' ∧ XB R R') := by
  obtain ⟨hE, hT, hF, hB, hH, hD⟩ := h
  have hT0 := hT
  obtain ⟨⟨t1, t2, t3⟩, ⟨u1, u2, u3⟩, t4, t5, t6, t7, t8, t9⟩ := hT
  have hL := hE.2.2.1
  obtain ⟨G, eG⟩ : ∃ G : MM, G = mU R 359 23 1 := ⟨_, rfl⟩
  have gG : ∀ a j, a ≠ 359 ∨ j ≠ 23 → G a j = R a j := fun a j haj => by rw [eG]; exact mU_ne _ _ haj
  have g23 : G 359 23 = 1 := by rw [eG, mU_eq]
  have gE : ENV T L C G := ENV_c hE rfl rfl (gG _ _ (by omega)) (funext fun j => gG 360 j (by omega))
  have gT : TT T L f t kk C G := by
    unfold TT
    rw [gG 359 13 (by omega), gG 359 11 (by omega), gG 359 14 (by omega), gG 359 16 (by omega), gG 359 15 (by omega)]; exact hT0
  have gF : FF f C G := FF_c hF (Nat.le_refl _) rfl rfl (gG _ _ (by omega)) (gG _ _ (by omega))
  have gR0 : G 370 = R 370 := funext fun j => gG 370 j (by omega)
  have gB : RB s G := RB_c hB gR0 (gG _ _ (by omega))
  have gX : XB R G := fun a h1 h2 h3 => funext fun j => gG a j (by omega)
  have wk : Unit → wI kk = kk := fun _ => wI_of (by omega) (by omega)
  have hm0 : mk_ kk ≠ 0 := by
    unfold mk_
    rw [if_neg hk]
    repeat' split
    all_goals omega
  have hm2 : mk_ kk = 2 ↔ kk = 1 := by
    unfold mk_
    rw [if_neg hk]
    by_cases z1 : kk = 1
    · rw [if_pos z1]; exact ⟨fun _ => z1, fun _ => rfl⟩
    · rw [if_neg z1]
      refine ⟨fun z => ?_, fun z => absurd z z1⟩
      exfalso; revert z
      repeat' split
      all_goals omega
  -- what the reference does
  have eb : ∃ y, sX12_lines_b2 359 (s : Int) (n + 2) 1 R = sX12_lines_b41 359 (s : Int) (fun x2 M => sX12_lines_b2 359 (s : Int) (n + 1) x2 M) (f : Int) 359 (s : Int) y G ∧ (kk = 1 → y = wd T f t) ∧ (kk ≠ 1 → y = 0) := by
    rw [sX12_lines_b2, i10, u3, mk_w, if_neg hm0, ob_s, ← eG, gG 359 14 (by omega), u3, mk_w, u1]
    by_cases z : kk = 1
    · rw [if_pos (hm2.mpr z)]
      exact ⟨_, rfl, fun _ => by rw [gG 359 16 (by omega)]; exact (t4 z).1, fun q => absurd z q⟩
    · rw [if_neg (fun q => z (hm2.mp q))]
      exact ⟨_, rfl, fun q => absurd q z, fun _ => rfl⟩
  obtain ⟨y, eb, ey1, ey0⟩ := eb
  have bad : sX12_lineOf 359 (s : Int) y (f : Int) G = some (0, mU G 359 17 (G 359 13)) → sX7_readsLine 79 1 (s : Int) C = some (0, C) → (∃ C' R', ∃ g : Nat, sX7_readsLine 79 1 (s : Int) C = some (0, C') ∧ sX12_lines_b2 359 (s : Int) (n + 2) 1 R = some (0, R') ∧ C' 79 9 = (g : Int) ∧ R' 359 17 = (g : Int) ∧ XA C C' ∧ XB R R' ∧ HM C') := by
    intro h1 h2
    refine ⟨C, mU G 359 17 (f : Int), f, h2, ?_, t1, mU_eq _ _ _ _, XA_r, XB_u gX, hH⟩
    rw [eb]
    unfold sX12_lines_b41 sX12_lines_b63 sX12_lines_b71
    rw [h1, ob_s, gG 359 13 (by omega), u1]
    dsimp only
    rw [i00, i00]
    exact fin0
  by_cases z : kk = 1
  · subst z
    obtain ⟨t41, t42⟩ := t4 rfl
    rcases ko_e (M := C) (T := T) (f := f) (t := t) hE.1 hE.2.1 t1 t2 ⟨t6.1, by omega⟩ t42 hs with ⟨k, k1, k2, k3, k4⟩ | ⟨k1, k2⟩
    · have el : sX7_readsLine 79 1 (s : Int) C = sX7_readsLine_b18 79 1 (s : Int) (k : Int) C := by
        unfold sX7_readsLine sX7_readsLine_b0
        rw [t3, wk (), if_pos rfl, k4, ob_s]
      have hln := ln_a (k := k) (T := T) (L := L) (s := s) (f := f) (t := t) (C := C) (R := G) ⟨gE, gT, gF, gB, hH, fun z => DR_c (hD z) (fun _ _ _ => rfl) rfl gR0 (gG _ _ (by omega)), g23⟩ hs k1 k2
      rw [el, eb, ey1 rfl, k3]
      unfold sX12_lines_b41 sX12_lines_b63 sX12_lines_b71
      rcases hln with ⟨C', R', g, h1, h2, h3, h4, h5, h6, h7⟩ | ⟨C', R', f', t', kk', h1, h2, cE, cT, cF, h3, cB, h4, h5, cH, cK⟩
      · left
        rw [h1, h2, ob_s]
        dsimp only
        rw [i00, i00]
        exact ⟨C', R', g, rfl, fin0, h3, h4, h5, XB_t gX h6, h7⟩
      · rw [h1, h2, ob_s]
        dsimp only
        rw [i10]
        obtain ⟨⟨s1, s2, s3⟩, ⟨v1, v2, v3⟩, s4, s5, s6, s7, s8, s9⟩ := cT
        have wk' : Unit → wI kk' = kk' := fun _ => wI_of (by omega) (by omega)
        unfold sX7_readsLine_b123
        rw [s3, wk' ()]
        by_cases z3 : kk' = 3
        · right
          subst z3
          have hl7 := s7 (by omega)
          obtain ⟨C2, R2, f2, t2', k2', a1, a2, a3, a4, a5, a6, a7⟩ := tok2 (p := t') cE s2 v2 s6.2
          rw [if_pos rfl, if_pos (show wI (R' 359 14) = 4 by rw [v3, mk_w]; rfl), i10, a1, a2, ob_s, ob_s]
          have cF2 : FF f2 C2 R2 := FF_c cF (by omega) (a5 _ _ (by omega)) (a5 _ _ (by omega)) (a6 _ _ (by omega)) (a6 _ _ (by omega))
          have cB2 : RB s R2 := RB_c cB (FB_row a6 (by omega)) (a6 _ _ (by omega))
          have x2 : XB R R2 := XB_t gX (XB_t h5 (fun a h1 h2 h3 => FB_row a6 h1))
          have hf5 : wI (C2 79 5) = C2 79 5 := by
            rcases cF2.2 with ⟨q1, q2⟩ | ⟨q1, q2⟩
            · rw [q1]; rfl
            · rcases q1 with q1 | q1 <;> rw [q1] <;> rfl
          rw [hf5]
          by_cases z5 : C2 79 5 = 0
          · obtain ⟨C3, b1, b2, b3, b4, b5⟩ := cK (by rw [← a5 79 5 (by omega)]; exact z5) C2 a5
            rw [if_pos z5, b1, ob_s]
            refine ⟨C3, R2, f2, t2', k2', rfl, rfl, ⟨ENV_c a7 (b4 1 (by omega)) (b4 2 (by omega)) rfl rfl, ?_, FF_c cF2 (Nat.le_refl _) (b5 5 (by omega)) (b5 6 (by omega)) rfl rfl, cB2, b3, fun _ => DR_c b2 (fun _ _ _ => rfl) rfl (FB_row a6 (by omega)) (a6 _ _ (by omega))⟩, by omega, XA_t h4 (XA_t (fun a ha => FA_row a5 (by omega)) b4), x2⟩
            unfold TT
            rw [b5 9 (by omega), b5 10 (by omega), b5 8 (by omega), b5 11 (by omega)]; exact a3
          · rw [if_neg z5]
            exact ⟨C2, R2, f2, t2', k2', rfl, rfl, ⟨a7, a3, cF2, cB2, HM_c cH (fun a ha hb => FA_row a5 (by omega)), fun q => absurd q z5⟩, by omega, XA_t h4 (fun a ha => FA_row a5 (by omega)), x2⟩
        · left
          have hm4 : mk_ kk' ≠ 4 := by
            unfold mk_
            by_cases q0 : kk' = 0
            · rw [if_pos q0]; omega
            · rw [if_neg q0]
              by_cases q1 : kk' = 1
              · rw [if_pos q1]; omega
              · rw [if_neg q1]
                by_cases q2 : kk' = 2
                · rw [if_pos q2]; omega
                · rw [if_neg q2, if_neg z3]; omega
          rw [if_neg z3, if_neg (show ¬ wI (R' 359 14) = 4 by rw [v3, mk_w]; exact hm4)]
          unfold sX12_fails sX12_fails_b0
          rw [ob_s, ob_s]
          dsimp only
          rw [i00, v1]
          exact ⟨C', mU R' 359 17 (f' : Int), f', rfl, fin0, s1, mU_eq _ _ _ _, h4, XB_u (XB_t gX h5), cH⟩
    · left
      refine bad (nfl_a hs (by rw [ey1 rfl]; exact wd_w t42) (by rw [ey1 rfl]; exact k1)) ?_
      unfold sX7_readsLine sX7_readsLine_b0 sX7_readsLine_b18
      rw [t3, wk (), if_pos rfl, k2, ob_s, wI_m1, if_pos (by omega)]
  · left
    refine bad (nfl_a hs (by rw [ey0 z]; exact wJ_of (by omega) (by omega)) (by
      rw [ey0 z]; intro k _ hk2
      have := cW_p k (by have := (fK_e (s + 1) (by omega)).2; omega)
      omega)) ?_
    unfold sX7_readsLine sX7_readsLine_b0 sX7_readsLine_b18
    rw [t3, wk (), if_neg z, wI_m1, if_pos (by omega)]
theorem loop1 {T : Nat → Int} {L s : Nat} (hs : s < 5) : ∀ d f t kk C R j nc nr, L - f ≤ d → BL T L s f t kk C R → j ≤ f → d + 2 < nc → d + 2 < nr → (∃ C' R', ∃ g : Nat, sX7_reads_b26 79 1 (s : Int) nc (j : Int) C = some (0, C') ∧ sX12_lines_b2 359 (s : Int) nr 1 R = some (0, R') ∧ C' 79 5 = 1 ∧ C' 79 6 = (g : Int) ∧ R' 359 17 = (g : Int) ∧ XA C C' ∧ XB R R' ∧ HM C') ∨ (∃ C' R' f' t', sX7_reads_b26 79 1 (s : Int) nc (j : Int) C = sX7_reads_b70 79 1 (s : Int) C' ∧ sX12_lines_b2 359 (s : Int) nr 1 R = some (1, R') ∧ BL T L s f' t' 0 C' R' ∧ XA C C' ∧ XB R R') := by
  intro d
  induction d with
  | zero =>
    intro f t kk C R j nc nr hd hB hj hc hr
    obtain ⟨nc, rfl⟩ : ∃ m, nc = m + 1 := ⟨nc - 1, by omega⟩
    obtain ⟨nr, rfl⟩ : ∃ m, nr = m + 1 := ⟨nr - 1, by omega⟩
    have hB0 := hB
    obtain ⟨hE, ⟨⟨t1, t2, t3⟩, ⟨u1, u2, u3⟩, t4, t5, t6, t7, t8, t9⟩, hF, hR, hH, hD⟩ := hB
    have hk : kk = 0 := Decidable.byContradiction fun z => by have := t7 z; omega
    subst hk
    right
    refine ⟨C, R, f, t, ?_, ?_, hB0, XA_r, XB_r⟩
    · rw [sX7_reads_b26, t3]
      by_cases z : 600 ≤ wI (j : Int)
      · rw [if_pos z]
      · rw [if_neg z, i00]
    · rw [sX12_lines_b2, i10, u3, show mk_ 0 = 0 from rfl, i00]
      unfold sX12_lines_b74
      exact if_pos (Or.inr rfl)
  | succ d ih =>
    intro f t kk C R j nc nr hd hB hj hc hr
    obtain ⟨nc, rfl⟩ : ∃ m, nc = m + 1 := ⟨nc - 1, by omega⟩
    obtain ⟨nr, rfl⟩ : ∃ m, nr = m + 2 := ⟨nr - 2, by omega⟩
    have hB0 := hB
    obtain ⟨hE, ⟨⟨t1, t2, t3⟩, ⟨u1, u2, u3⟩, t4, t5, t6, t7, t8, t9⟩, hF, hR, hH, hD⟩ := hB
    have hL := hE.2.2.1
    by_cases hk : kk = 0
    · subst hk
      right
      refine ⟨C, R, f, t, ?_, ?_, hB0, XA_r, XB_r⟩
      · rw [sX7_reads_b26, t3]
        by_cases z : 600 ≤ wI (j : Int)
        · rw [if_pos z]
        · rw [if_neg z, i00]
      · rw [sX12_lines_b2, i10, u3, show mk_ 0 = 0 from rfl, i00]
        unfold sX12_lines_b74
        exact if_pos (Or.inr rfl)
    · have hft := t7 hk
      have c1 : ¬ (600 : Int) ≤ (j : Int) := by omega
      have wk : Unit → wI kk = kk := fun _ => wI_of (by omega) (by omega)
      have wj : Unit → wI (j : Int) = (j : Int) := fun _ => wI_of (by omega) (by omega)
      have e0 : sX7_reads_b26 79 1 (s : Int) (nc + 1) (j : Int) C = (sX7_readsLine 79 1 (s : Int) C).bind fun q_3 => (if wI (q_3.1) = 0 then ((some (mU q_3.2 79 5 1)).bind fun M_6 => ((some (mU M_6 79 6 (M_6 79 9))).bind fun M_7 => (some ((0, M_7))))) else ((some ((j : Int) + 1)).bind fun v_5 => (sX7_reads_b26 79 1 (s : Int) nc v_5 q_3.2))) := by
        rw [sX7_reads_b26, t3, wj (), if_neg c1, wk (), if_neg hk]
      rcases line1 hB0 hs hk nr with ⟨C', R', g, h1, h2, h3, h4, h5, h6, h7⟩ | ⟨C', R', f', t', kk', h1, h2, h3, h4, h5, h6⟩
      · left
        rw [e0, h1, h2, ob_s]
        dsimp only
        rw [i00, ob_s, ob_s, mU_ne _ _ (by omega), h3]
        refine ⟨mU (mU C' 79 5 1) 79 6 (g : Int), R', g, rfl, rfl, ?_, mU_eq _ _ _ _, h4, fun a ha => ?_, h6, HM_c h7 (fun a ha hb => ?_)⟩
        · rw [mU_ne _ _ (by omega), mU_eq]
        · rw [mU_row _ _ (by omega), mU_row _ _ (by omega)]; exact h5 a ha
        · rw [mU_row _ _ (by omega), mU_row _ _ (by omega)]
      · rw [e0, h1, h2, ob_s]
        dsimp only
        rw [i10, ob_s]
        rcases ih f' t' kk' C' R' (j + 1) nc (nr + 1) (by omega) h3 (by omega) (by omega) (by omega) with ⟨C2, R2, g, b1, b2, b3, b4, b5, b6, b7, b8⟩ | ⟨C2, R2, f2, t2', b1, b2, b3, b4, b5⟩
        · left
          exact ⟨C2, R2, g, b1, b2, b3, b4, b5, XA_t h5 b6, XB_t h6 b7, b8⟩
        · right
          exact ⟨C2, R2, f2, t2', b1, b2, b3, XA_t h5 b4, XB_t h6 b5⟩
