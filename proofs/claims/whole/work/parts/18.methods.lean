abbrev xX12_layStriker : XX := (yX12_layStriker, cX12_layStriker, 4, (some .boolean), 3, 65, 0, 0)
theorem ck_X12_layStriker_328 : CKV xX12_layStriker 328 xX12_hand 1 := ⟨⟨tb_i 1780 (by decide +kernel) (by decide +kernel), tb_i 152 (by decide +kernel) (by decide +kernel), tb_i 1783 (by decide +kernel) (by decide +kernel), ⟨by decide +kernel, by decide +kernel, by decide +kernel⟩, by decide, by decide⟩, tb_i 1782 (by decide +kernel) (by decide +kernel), tb_i 72 (by decide +kernel) (by decide +kernel)⟩
theorem ck_X12_layStriker_331 : CKV xX12_layStriker 331 xX12_isChild 1 := ⟨⟨tb_i 1792 (by decide +kernel) (by decide +kernel), tb_i 152 (by decide +kernel) (by decide +kernel), tb_i 1795 (by decide +kernel) (by decide +kernel), ⟨by decide +kernel, by decide +kernel, by decide +kernel⟩, by decide, by decide⟩, tb_i 1794 (by decide +kernel) (by decide +kernel), tb_i 74 (by decide +kernel) (by decide +kernel)⟩
theorem ck_X12_layStriker_334 : CKV xX12_layStriker 334 xX12_ofChild 2 := ⟨⟨tb_i 1796 (by decide +kernel) (by decide +kernel), tb_i 152 (by decide +kernel) (by decide +kernel), tb_i 1799 (by decide +kernel) (by decide +kernel), ⟨by decide +kernel, by decide +kernel, by decide +kernel⟩, by decide, by decide⟩, tb_i 1798 (by decide +kernel) (by decide +kernel), tb_i 75 (by decide +kernel) (by decide +kernel)⟩
def sX12_layStriker_b30 (a0 : Nat) (x1 : Int) (x2 : Int)  : Nat → Int → MM → Option (Int × MM)
  | 0, _, _ => none
  | n + 1, x3, M => (if wI (M a0 26) ≤ wI x3 then (some ((1, M))) else ((sX12_ofChild a0 x3 4 M).bind fun q_3 => (if 0 ≤ wI x3 ∧ wI x3 < 8 then ((some (mU M (gR a0 59) (wI x3).toNat q_3)).bind fun M_5 => ((some (x3 + 1)).bind fun v_6 => (sX12_layStriker_b30 a0 x1 x2 n v_6 M_5))) else none)))
def sX12_layStriker_b23 (a0 : Nat) (x1 : Int) (x2 : Int)   (M : MM) : Option (Int × MM) := ((some (mU M a0 58 x2)).bind fun M_1 => (sX12_layStriker_b30 a0 x1 x2 FU 0 M_1))
def sX12_layStriker_b0 (a0 : Nat) (x1 : Int) (x2 : Int)   (M : MM) : Option (Int × MM) := ((sX12_hand a0 x1 M).bind fun q_1 => (if wI (q_1.1) = 0 then (some ((0, q_1.2))) else (if wI x2 = (-1) then (sX12_layStriker_b23 a0 x1 x2 q_1.2) else ((sX12_isChild a0 x2 q_1.2).bind fun q_4 => (if wI q_4 = 0 then (some ((0, q_1.2))) else (sX12_layStriker_b23 a0 x1 x2 q_1.2))))))
def sX12_layStriker (a0 : Nat) (x1 : Int) (x2 : Int) (M : MM) : Option (Int × MM) := sX12_layStriker_b0 a0 x1 x2 M
set_option maxHeartbeats 4000000 in
set_option maxRecDepth 100000 in
theorem bX12_layStriker_b30 {G : GG} (a0 : Nat) (x1 : Int) (x2 : Int) (oa0 : OB L0 a0 12) {res : (Int × MM)} : ∀ (n : Nat) (x3 : Int) (M : MM)  (h : sX12_layStriker_b30 a0 x1 x2 n x3 M = some res), VV G xX12_layStriker (ZM G xX12_layStriker (some (.int (eI res.1))) L0 res.2) L0 M 0 0 30 [(0, .ref (gA G a0)), (3, .int (eI x3))] [] := by
  intro n
  induction n with
  | zero =>
    intro x3 M h
    rw [sX12_layStriker_b30] at h
    cases h
  | succ n ih =>
    intro x3 M h
    rw [sX12_layStriker_b30] at h
    refine r_iload_n (pc := 30) (i := 3) dX12_layStriker_30 rfl 1 rfl ?_
    refine r_aload_n (pc := 31) (i := 0) dX12_layStriker_31 rfl 0 rfl ?_
    refine r_getI (pc := 32) fg_12_319 rfl oa0 dX12_layStriker_32 ?_
    refine r_icmp_ge (pc := 35) (tgt := 56) dX12_layStriker_35 (by decide) rfl rfl (fun c_1 => ?_) (fun c_1 => ?_)
    · replace h := (if_pos c_1).symm.trans h
      refine r_iconst (pc := 56) (v := 1) dX12_layStriker_56 (by decide +kernel) ?_
      cases h
      exact r_iret (pc := 57) rfl (zn_ok (Or.inr rfl)).1 (Nat.le_refl 0) (Nat.le_refl 0) dX12_layStriker_57
    · replace h := (if_neg c_1).symm.trans h
      refine r_aload_n (pc := 38) (i := 0) dX12_layStriker_38 rfl 0 rfl ?_
      have o_2 := (wt_12_59 oa0).2
      refine r_getR (pc := 39) fg_12_84 rfl oa0 (wt_12_59 oa0).1 dX12_layStriker_39 ?_
      refine r_iload_n (pc := 42) (i := 3) dX12_layStriker_42 rfl 1 rfl ?_
      refine r_aload_n (pc := 43) (i := 0) dX12_layStriker_43 rfl 0 rfl ?_
      refine r_iload_n (pc := 44) (i := 3) dX12_layStriker_44 rfl 1 rfl ?_
      refine r_iconst (pc := 45) (v := 4) dX12_layStriker_45 (by decide +kernel) ?_
      obtain ⟨q_3, hq_3, h⟩ := ob h
      refine r_cV (pc := 46) (Y := xX12_ofChild) (As := [.int (eI x3), .int (eI 4)]) (rest := [.int (eI x3), .ref (gA G (gR a0 59))]) (v := (some (.int (eI q_3)))) (st1 := [.int (eI q_3), .int (eI x3), .ref (gA G (gR a0 59))]) ck_X12_layStriker_334 (kX12_ofChild a0 x3 4 M oa0 hq_3) oa0 rfl rfl rfl rfl (Nat.le_of_ble_eq_true rfl) ⟨rfl, rfl⟩ rfl dX12_layStriker_46 ?_
      obtain ⟨c_4, h⟩ := og h
      obtain ⟨M_5, hM_5, h⟩ := ob h
      refine r_iast (pc := 49) o_2 rfl c_4 rfl hM_5 dX12_layStriker_49 ?_
      obtain ⟨v_6, hv_6, h⟩ := ob h
      refine r_iinc (pc := 50) (y := v_6) (lv' := [(3, .int (eI v_6)), (0, .ref (gA G a0))]) dX12_layStriker_50 1 rfl (Option.some.inj hv_6) (Nat.le_of_ble_eq_true rfl) rfl ?_
      refine r_goto (pc := 53) (tgt := 30) dX12_layStriker_53 (by decide) ?_
      refine r_sub (lv' := [(0, .ref (gA G a0)), (3, .int (eI v_6))]) [1, 0] rfl ?_
      exact ih _ _ h
set_option maxHeartbeats 4000000 in
set_option maxRecDepth 100000 in
theorem bX12_layStriker_b23 {G : GG} (a0 : Nat) (x1 : Int) (x2 : Int) (oa0 : OB L0 a0 12)  (M : MM) {res : (Int × MM)}  (h : sX12_layStriker_b23 a0 x1 x2 M = some res) : VV G xX12_layStriker (ZM G xX12_layStriker (some (.int (eI res.1))) L0 res.2) L0 M 0 0 23 [(0, .ref (gA G a0)), (2, .int (eI x2))] [] := by
  unfold sX12_layStriker_b23 at h
  refine r_aload_n (pc := 23) (i := 0) dX12_layStriker_23 rfl 0 rfl ?_
  refine r_iload_n (pc := 24) (i := 2) dX12_layStriker_24 rfl 1 rfl ?_
  obtain ⟨M_1, hM_1, h⟩ := ob h
  refine r_putI (pc := 25) fg_12_527 rfl oa0 hM_1 rfl rfl dX12_layStriker_25 ?_
  refine r_iconst (pc := 28) (v := 0) dX12_layStriker_28 (by decide +kernel) ?_
  refine r_istore_n (pc := 29) (i := 3) (lv' := [(3, .int (eI 0)), (0, .ref (gA G a0)), (2, .int (eI x2))]) dX12_layStriker_29 rfl (Nat.le_of_ble_eq_true rfl) rfl ?_
  refine r_sub (lv' := [(0, .ref (gA G a0)), (3, .int (eI 0))]) [1, 0] rfl ?_
  exact bX12_layStriker_b30 a0 x1 x2 oa0 _ _ _ h
set_option maxHeartbeats 4000000 in
set_option maxRecDepth 100000 in
theorem bX12_layStriker_b0 {G : GG} (a0 : Nat) (x1 : Int) (x2 : Int) (oa0 : OB L0 a0 12)  (M : MM) {res : (Int × MM)}  (h : sX12_layStriker_b0 a0 x1 x2 M = some res) : VV G xX12_layStriker (ZM G xX12_layStriker (some (.int (eI res.1))) L0 res.2) L0 M 0 0 0 [(0, .ref (gA G a0)), (1, .int (eI x1)), (2, .int (eI x2))] [] := by
  unfold sX12_layStriker_b0 at h
  refine r_aload_n (pc := 0) (i := 0) dX12_layStriker_0 rfl 0 rfl ?_
  refine r_iload_n (pc := 1) (i := 1) dX12_layStriker_1 rfl 1 rfl ?_
  obtain ⟨q_1, hq_1, h⟩ := ob h
  refine r_cV (pc := 2) (Y := xX12_hand) (As := [.int (eI x1)]) (rest := []) (v := (some (.int (eI (q_1.1))))) (st1 := [.int (eI (q_1.1))]) ck_X12_layStriker_328 (kX12_hand a0 x1 M oa0 hq_1) oa0 rfl rfl rfl rfl (Nat.le_of_ble_eq_true rfl) ⟨rfl, rfl⟩ rfl dX12_layStriker_2 ?_
  refine r_if_eq (pc := 5) (tgt := 21) dX12_layStriker_5 (by decide) rfl (fun c_2 => ?_) (fun c_2 => ?_)
  · replace h := (if_pos c_2).symm.trans h
    refine r_iconst (pc := 21) (v := 0) dX12_layStriker_21 (by decide +kernel) ?_
    cases h
    exact r_iret (pc := 22) rfl (zn_ok (Or.inl rfl)).1 (Nat.le_refl 0) (Nat.le_refl 0) dX12_layStriker_22
  · replace h := (if_neg c_2).symm.trans h
    refine r_iload_n (pc := 8) (i := 2) dX12_layStriker_8 rfl 2 rfl ?_
    refine r_iconst (pc := 9) (v := (-1)) dX12_layStriker_9 (by decide +kernel) ?_
    refine r_icmp_eq (pc := 10) (tgt := 23) dX12_layStriker_10 (by decide) rfl wl_m1 (fun c_3 => ?_) (fun c_3 => ?_)
    · replace h := (if_pos c_3).symm.trans h
      refine r_sub (lv' := [(0, .ref (gA G a0)), (2, .int (eI x2))]) [0, 2] rfl ?_
      exact bX12_layStriker_b23 a0 x1 x2 oa0 _ h
    · replace h := (if_neg c_3).symm.trans h
      refine r_aload_n (pc := 13) (i := 0) dX12_layStriker_13 rfl 0 rfl ?_
      refine r_iload_n (pc := 14) (i := 2) dX12_layStriker_14 rfl 2 rfl ?_
      obtain ⟨q_4, hq_4, h⟩ := ob h
      refine r_cV (pc := 15) (Y := xX12_isChild) (As := [.int (eI x2)]) (rest := []) (v := (some (.int (eI q_4)))) (st1 := [.int (eI q_4)]) ck_X12_layStriker_331 (kX12_isChild a0 x2 q_1.2 oa0 hq_4) oa0 rfl rfl rfl rfl (Nat.le_of_ble_eq_true rfl) ⟨rfl, rfl⟩ rfl dX12_layStriker_15 ?_
      refine r_if_ne (pc := 18) (tgt := 23) dX12_layStriker_18 (by decide) rfl (fun c_5 => ?_) (fun c_5 => ?_)
      · replace h := (if_neg c_5).symm.trans h
        refine r_sub (lv' := [(0, .ref (gA G a0)), (2, .int (eI x2))]) [0, 2] rfl ?_
        exact bX12_layStriker_b23 a0 x1 x2 oa0 _ h
      · replace h := (if_pos c_5).symm.trans h
        refine r_iconst (pc := 21) (v := 0) dX12_layStriker_21 (by decide +kernel) ?_
        cases h
        exact r_iret (pc := 22) rfl (zn_ok (Or.inl rfl)).1 (Nat.le_refl 0) (Nat.le_refl 0) dX12_layStriker_22
theorem kX12_layStriker {G : GG} (a0 : Nat) (x1 : Int) (x2 : Int) (M : MM) {res : (Int × MM)} (oa0 : OB L0 a0 12) (h : sX12_layStriker a0 x1 x2 M = some res) : CO G xX12_layStriker [.ref (gA G a0), .int (eI x1), .int (eI x2)] L0 M (some (.int (eI res.1))) L0 res.2 := CO_of (by decide +kernel) (Nat.le_of_ble_eq_true rfl) (bX12_layStriker_b0 a0 x1 x2 oa0 M h)
abbrev xX12_cell : XX := (yX12_cell, cX12_cell, 5, (some .int), 4, 88, 0, 0)
theorem ck_X12_cell_105 : CKS xX12_cell 105 xX12_in 3 := ⟨⟨tb_i 1622 (by decide +kernel) (by decide +kernel), tb_i 152 (by decide +kernel) (by decide +kernel), tb_i 1624 (by decide +kernel) (by decide +kernel), ⟨by decide +kernel, by decide +kernel, by decide +kernel⟩, by decide, by decide⟩, tb_i 1623 (by decide +kernel) (by decide +kernel)⟩
theorem ck_X12_cell_533 : CKV xX12_cell 533 xX12_layStriker 2 := ⟨⟨tb_i 2020 (by decide +kernel) (by decide +kernel), tb_i 152 (by decide +kernel) (by decide +kernel), tb_i 2023 (by decide +kernel) (by decide +kernel), ⟨by decide +kernel, by decide +kernel, by decide +kernel⟩, by decide, by decide⟩, tb_i 2022 (by decide +kernel) (by decide +kernel), tb_i 110 (by decide +kernel) (by decide +kernel)⟩
theorem ck_X12_cell_536 : CKS xX12_cell 536 xX12_ringOf 1 := ⟨⟨tb_i 2024 (by decide +kernel) (by decide +kernel), tb_i 152 (by decide +kernel) (by decide +kernel), tb_i 2026 (by decide +kernel) (by decide +kernel), ⟨by decide +kernel, by decide +kernel, by decide +kernel⟩, by decide, by decide⟩, tb_i 2025 (by decide +kernel) (by decide +kernel)⟩
theorem ck_X12_cell_539 : CKS xX12_cell 539 xX12_sideOf 1 := ⟨⟨tb_i 2030 (by decide +kernel) (by decide +kernel), tb_i 152 (by decide +kernel) (by decide +kernel), tb_i 2032 (by decide +kernel) (by decide +kernel), ⟨by decide +kernel, by decide +kernel, by decide +kernel⟩, by decide, by decide⟩, tb_i 2031 (by decide +kernel) (by decide +kernel)⟩
theorem ck_X12_cell_542 : CKV xX12_cell 542 xX12_picks 1 := ⟨⟨tb_i 2033 (by decide +kernel) (by decide +kernel), tb_i 152 (by decide +kernel) (by decide +kernel), tb_i 2036 (by decide +kernel) (by decide +kernel), ⟨by decide +kernel, by decide +kernel, by decide +kernel⟩, by decide, by decide⟩, tb_i 2035 (by decide +kernel) (by decide +kernel), tb_i 111 (by decide +kernel) (by decide +kernel)⟩
def sX12_cell_b0 (a0 : Nat) (x1 : Int) (x2 : Int) (x3 : Int) (x4 : Int)   (M : MM) : Option (Int × MM) := ((some (mU M a0 0 0)).bind fun M_1 => ((sX12_layStriker a0 x1 x2 M_1).bind fun q_2 => (if wI (q_2.1) = 0 then (some (((-1), q_2.2))) else (if wI (sX12_in x3 0 24) = 0 then (some (((-1), q_2.2))) else (if wI x4 = 0 then (some (((sX12_ringOf x3), q_2.2))) else (if wI x4 = 1 then (if wI x3 = 12 then (some (((-1), q_2.2))) else (some (((sX12_sideOf x3), q_2.2)))) else (if wI x4 = 2 then ((sX12_picks a0 x3 q_2.2).bind fun q_9 => (some ((q_9, q_2.2)))) else (some (((-1), q_2.2))))))))))
def sX12_cell (a0 : Nat) (x1 : Int) (x2 : Int) (x3 : Int) (x4 : Int) (M : MM) : Option (Int × MM) := sX12_cell_b0 a0 x1 x2 x3 x4 M
set_option maxHeartbeats 4000000 in
set_option maxRecDepth 100000 in
theorem bX12_cell_b0 {G : GG} (a0 : Nat) (x1 : Int) (x2 : Int) (x3 : Int) (x4 : Int) (oa0 : OB L0 a0 12)  (M : MM) {res : (Int × MM)}  (h : sX12_cell_b0 a0 x1 x2 x3 x4 M = some res) : VV G xX12_cell (ZM G xX12_cell (some (.int (eI res.1))) L0 res.2) L0 M 0 0 0 [(0, .ref (gA G a0)), (1, .int (eI x1)), (2, .int (eI x2)), (3, .int (eI x3)), (4, .int (eI x4))] [] := by
  unfold sX12_cell_b0 at h
  refine r_aload_n (pc := 0) (i := 0) dX12_cell_0 rfl 0 rfl ?_
  refine r_iconst (pc := 1) (v := 0) dX12_cell_1 (by decide +kernel) ?_
  obtain ⟨M_1, hM_1, h⟩ := ob h
  refine r_putI (pc := 2) fg_12_97 rfl oa0 hM_1 rfl rfl dX12_cell_2 ?_
  refine r_aload_n (pc := 5) (i := 0) dX12_cell_5 rfl 0 rfl ?_
  refine r_iload_n (pc := 6) (i := 1) dX12_cell_6 rfl 1 rfl ?_
  refine r_iload_n (pc := 7) (i := 2) dX12_cell_7 rfl 2 rfl ?_
  obtain ⟨q_2, hq_2, h⟩ := ob h
  refine r_cV (pc := 8) (Y := xX12_layStriker) (As := [.int (eI x1), .int (eI x2)]) (rest := []) (v := (some (.int (eI (q_2.1))))) (st1 := [.int (eI (q_2.1))]) ck_X12_cell_533 (kX12_layStriker a0 x1 x2 M_1 oa0 hq_2) oa0 rfl rfl rfl rfl (Nat.le_of_ble_eq_true rfl) ⟨rfl, rfl⟩ rfl dX12_cell_8 ?_
  refine r_if_eq (pc := 11) (tgt := 24) dX12_cell_11 (by decide) rfl (fun c_3 => ?_) (fun c_3 => ?_)
  · replace h := (if_pos c_3).symm.trans h
    refine r_iconst (pc := 24) (v := (-1)) dX12_cell_24 (by decide +kernel) ?_
    cases h
    exact r_iret (pc := 25) rfl rfl (Nat.le_refl 0) (Nat.le_refl 0) dX12_cell_25
  · replace h := (if_neg c_3).symm.trans h
    refine r_iload_n (pc := 14) (i := 3) dX12_cell_14 rfl 3 rfl ?_
    refine r_iconst (pc := 15) (v := 0) dX12_cell_15 (by decide +kernel) ?_
    refine r_bipush (pc := 16) (v := 24) dX12_cell_16 (by decide +kernel) ?_
    refine r_cS (pc := 18) (Y := xX12_in) (As := [.int (eI x3), .int (eI 0), .int (eI 24)]) (rest := []) (v := (some (.int (eI (sX12_in x3 0 24))))) (st1 := [.int (eI (sX12_in x3 0 24))]) ck_X12_cell_105 (kX12_in x3 0 24 q_2.2 ) rfl rfl (Nat.le_of_ble_eq_true rfl) ⟨rfl, rfl⟩ rfl dX12_cell_18 ?_
    refine r_if_ne (pc := 21) (tgt := 26) dX12_cell_21 (by decide) rfl (fun c_4 => ?_) (fun c_4 => ?_)
    · replace h := (if_neg c_4).symm.trans h
      refine r_iload (pc := 26) dX12_cell_26 4 rfl ?_
      by_cases c_5 : wI x4 = 0
      · replace h := (if_pos c_5).symm.trans h
        refine r_tsw (pc := 28) (tgt := 56) (k' := 0) (rfl.trans c_5) dX12_cell_28 (by decide) rfl (by decide) ?_
        refine r_iload_n (pc := 56) (i := 3) dX12_cell_56 rfl 3 rfl ?_
        refine r_cS (pc := 57) (Y := xX12_ringOf) (As := [.int (eI x3)]) (rest := []) (v := (some (.int (eI (sX12_ringOf x3))))) (st1 := [.int (eI (sX12_ringOf x3))]) ck_X12_cell_536 (kX12_ringOf x3 q_2.2 ) rfl rfl (Nat.le_of_ble_eq_true rfl) ⟨rfl, rfl⟩ rfl dX12_cell_57 ?_
        cases h
        exact r_iret (pc := 60) rfl rfl (Nat.le_refl 0) (Nat.le_refl 0) dX12_cell_60
      · replace h := (if_neg c_5).symm.trans h
        by_cases c_6 : wI x4 = 1
        · replace h := (if_pos c_6).symm.trans h
          refine r_tsw (pc := 28) (tgt := 61) (k' := 1) (rfl.trans c_6) dX12_cell_28 (by decide) rfl (by decide) ?_
          refine r_iload_n (pc := 61) (i := 3) dX12_cell_61 rfl 3 rfl ?_
          refine r_bipush (pc := 62) (v := 12) dX12_cell_62 (by decide +kernel) ?_
          refine r_icmp_ne (pc := 64) (tgt := 71) dX12_cell_64 (by decide) rfl wl_12 (fun c_7 => ?_) (fun c_7 => ?_)
          · replace h := (if_neg c_7).symm.trans h
            refine r_iload_n (pc := 71) (i := 3) dX12_cell_71 rfl 3 rfl ?_
            refine r_cS (pc := 72) (Y := xX12_sideOf) (As := [.int (eI x3)]) (rest := []) (v := (some (.int (eI (sX12_sideOf x3))))) (st1 := [.int (eI (sX12_sideOf x3))]) ck_X12_cell_539 (kX12_sideOf x3 q_2.2 ) rfl rfl (Nat.le_of_ble_eq_true rfl) ⟨rfl, rfl⟩ rfl dX12_cell_72 ?_
            cases h
            exact r_iret (pc := 75) rfl rfl (Nat.le_refl 0) (Nat.le_refl 0) dX12_cell_75
          · replace h := (if_pos c_7).symm.trans h
            refine r_iconst (pc := 67) (v := (-1)) dX12_cell_67 (by decide +kernel) ?_
            refine r_goto (pc := 68) (tgt := 75) dX12_cell_68 (by decide) ?_
            cases h
            exact r_iret (pc := 75) rfl rfl (Nat.le_refl 0) (Nat.le_refl 0) dX12_cell_75
        · replace h := (if_neg c_6).symm.trans h
          by_cases c_8 : wI x4 = 2
          · replace h := (if_pos c_8).symm.trans h
            refine r_tsw (pc := 28) (tgt := 76) (k' := 2) (rfl.trans c_8) dX12_cell_28 (by decide) rfl (by decide) ?_
            refine r_aload_n (pc := 76) (i := 0) dX12_cell_76 rfl 0 rfl ?_
            refine r_iload_n (pc := 77) (i := 3) dX12_cell_77 rfl 3 rfl ?_
            obtain ⟨q_9, hq_9, h⟩ := ob h
            refine r_cV (pc := 78) (Y := xX12_picks) (As := [.int (eI x3)]) (rest := []) (v := (some (.int (eI q_9)))) (st1 := [.int (eI q_9)]) ck_X12_cell_542 (kX12_picks a0 x3 q_2.2 oa0 hq_9) oa0 rfl rfl rfl rfl (Nat.le_of_ble_eq_true rfl) ⟨rfl, rfl⟩ rfl dX12_cell_78 ?_
            cases h
            exact r_iret (pc := 81) rfl rfl (Nat.le_refl 0) (Nat.le_refl 0) dX12_cell_81
          · replace h := (if_neg c_8).symm.trans h
            refine r_tswD (pc := 28) (tgt := 82) rfl dX12_cell_28 (by omega) (by decide) ?_
            refine r_iconst (pc := 82) (v := (-1)) dX12_cell_82 (by decide +kernel) ?_
            cases h
            exact r_iret (pc := 83) rfl rfl (Nat.le_refl 0) (Nat.le_refl 0) dX12_cell_83
    · replace h := (if_pos c_4).symm.trans h
      refine r_iconst (pc := 24) (v := (-1)) dX12_cell_24 (by decide +kernel) ?_
      cases h
      exact r_iret (pc := 25) rfl rfl (Nat.le_refl 0) (Nat.le_refl 0) dX12_cell_25
theorem kX12_cell {G : GG} (a0 : Nat) (x1 : Int) (x2 : Int) (x3 : Int) (x4 : Int) (M : MM) {res : (Int × MM)} (oa0 : OB L0 a0 12) (h : sX12_cell a0 x1 x2 x3 x4 M = some res) : CO G xX12_cell [.ref (gA G a0), .int (eI x1), .int (eI x2), .int (eI x3), .int (eI x4)] L0 M (some (.int (eI res.1))) L0 res.2 := CO_of (by decide +kernel) (Nat.le_of_ble_eq_true rfl) (bX12_cell_b0 a0 x1 x2 x3 x4 oa0 M h)
abbrev xX12_weightOf : XX := (yX12_weightOf, cX12_weightOf, 2, (some .int), 3, 62, 0, 0)
theorem ck_X12_weightOf_313 : CKV xX12_weightOf 313 xX12_of 1 := ⟨⟨tb_i 1784 (by decide +kernel) (by decide +kernel), tb_i 152 (by decide +kernel) (by decide +kernel), tb_i 1787 (by decide +kernel) (by decide +kernel), ⟨by decide +kernel, by decide +kernel, by decide +kernel⟩, by decide, by decide⟩, tb_i 1786 (by decide +kernel) (by decide +kernel), tb_i 73 (by decide +kernel) (by decide +kernel)⟩
theorem ck_X12_weightOf_536 : CKS xX12_weightOf 536 xX12_ringOf 1 := ⟨⟨tb_i 2024 (by decide +kernel) (by decide +kernel), tb_i 152 (by decide +kernel) (by decide +kernel), tb_i 2026 (by decide +kernel) (by decide +kernel), ⟨by decide +kernel, by decide +kernel, by decide +kernel⟩, by decide, by decide⟩, tb_i 2025 (by decide +kernel) (by decide +kernel)⟩
def sX12_weightOf_b0 (a0 : Nat) (x1 : Int) (M : MM)   : Option Int := ((sX12_of a0 (15 + (sX12_ringOf x1)) M).bind fun q_1 => (some (q_1)))
def sX12_weightOf (a0 : Nat) (x1 : Int) (M : MM) : Option Int := sX12_weightOf_b0 a0 x1 M
set_option maxHeartbeats 4000000 in
set_option maxRecDepth 100000 in
theorem bX12_weightOf_b0 {G : GG} (a0 : Nat) (x1 : Int) (M : MM) (oa0 : OB L0 a0 12)  {res : Int}  (h : sX12_weightOf_b0 a0 x1 M = some res) : VV G xX12_weightOf (ZM G xX12_weightOf (some (.int (eI res))) L0 M) L0 M 0 0 0 [(0, .ref (gA G a0)), (1, .int (eI x1))] [] := by
  unfold sX12_weightOf_b0 at h
  refine r_aload_n (pc := 0) (i := 0) dX12_weightOf_0 rfl 0 rfl ?_
  refine r_bipush (pc := 1) (v := 15) dX12_weightOf_1 (by decide +kernel) ?_
  refine r_iload_n (pc := 3) (i := 1) dX12_weightOf_3 rfl 1 rfl ?_
  refine r_cS (pc := 4) (Y := xX12_ringOf) (As := [.int (eI x1)]) (rest := [.int (eI 15), .ref (gA G a0)]) (v := (some (.int (eI (sX12_ringOf x1))))) (st1 := [.int (eI (sX12_ringOf x1)), .int (eI 15), .ref (gA G a0)]) ck_X12_weightOf_536 (kX12_ringOf x1 M ) rfl rfl (Nat.le_of_ble_eq_true rfl) ⟨rfl, rfl⟩ rfl dX12_weightOf_4 ?_
  refine r_iadd (pc := 7) dX12_weightOf_7 ?_
  obtain ⟨q_1, hq_1, h⟩ := ob h
  refine r_cV (pc := 8) (Y := xX12_of) (As := [.int (eI (15 + (sX12_ringOf x1)))]) (rest := []) (v := (some (.int (eI q_1)))) (st1 := [.int (eI q_1)]) ck_X12_weightOf_313 (kX12_of a0 (15 + (sX12_ringOf x1)) M oa0 hq_1) oa0 rfl rfl rfl rfl (Nat.le_of_ble_eq_true rfl) ⟨rfl, rfl⟩ rfl dX12_weightOf_8 ?_
  cases h
  exact r_iret (pc := 11) rfl rfl (Nat.le_refl 0) (Nat.le_refl 0) dX12_weightOf_11
theorem kX12_weightOf {G : GG} (a0 : Nat) (x1 : Int) (M : MM) {res : Int} (oa0 : OB L0 a0 12) (h : sX12_weightOf a0 x1 M = some res) : CO G xX12_weightOf [.ref (gA G a0), .int (eI x1)] L0 M (some (.int (eI res))) L0 M := CO_of (by decide +kernel) (Nat.le_of_ble_eq_true rfl) (bX12_weightOf_b0 a0 x1 M oa0 h)
abbrev xX12_allCells : XX := (yX12_allCells, cX12_allCells, 3, (some .int), 4, 83, 0, 0)
theorem ck_X12_allCells_545 : CKV xX12_allCells 545 xX12_weightOf 1 := ⟨⟨tb_i 2049 (by decide +kernel) (by decide +kernel), tb_i 152 (by decide +kernel) (by decide +kernel), tb_i 2052 (by decide +kernel) (by decide +kernel), ⟨by decide +kernel, by decide +kernel, by decide +kernel⟩, by decide, by decide⟩, tb_i 2051 (by decide +kernel) (by decide +kernel), tb_i 114 (by decide +kernel) (by decide +kernel)⟩
def sX12_allCells_b4 (a0 : Nat) (M : MM)  : Nat → Int → Int → Option Int
  | 0, _, _ => none
  | n + 1, x1, x2 => (if 25 ≤ wI x2 then (some (x1)) else ((sX12_weightOf a0 x2 M).bind fun q_2 => ((some (x2 + 1)).bind fun v_3 => (sX12_allCells_b4 a0 M n (x1 + q_2) v_3))))
def sX12_allCells_b0 (a0 : Nat) (M : MM)   : Option Int := (sX12_allCells_b4 a0 M FU 0 0)
def sX12_allCells (a0 : Nat) (M : MM) : Option Int := sX12_allCells_b0 a0 M
set_option maxHeartbeats 4000000 in
set_option maxRecDepth 100000 in
theorem bX12_allCells_b4 {G : GG} (a0 : Nat) (M : MM) (oa0 : OB L0 a0 12) {res : Int} : ∀ (n : Nat) (x1 : Int) (x2 : Int)  (h : sX12_allCells_b4 a0 M n x1 x2 = some res), VV G xX12_allCells (ZM G xX12_allCells (some (.int (eI res))) L0 M) L0 M 0 0 4 [(0, .ref (gA G a0)), (1, .int (eI x1)), (2, .int (eI x2))] [] := by
  intro n
  induction n with
  | zero =>
    intro x1 x2 h
    rw [sX12_allCells_b4] at h
    cases h
  | succ n ih =>
    intro x1 x2 h
    rw [sX12_allCells_b4] at h
    refine r_iload_n (pc := 4) (i := 2) dX12_allCells_4 rfl 2 rfl ?_
    refine r_bipush (pc := 5) (v := 25) dX12_allCells_5 (by decide +kernel) ?_
    refine r_icmp_ge (pc := 7) (tgt := 24) dX12_allCells_7 (by decide) rfl wl_25 (fun c_1 => ?_) (fun c_1 => ?_)
    · replace h := (if_pos c_1).symm.trans h
      refine r_iload_n (pc := 24) (i := 1) dX12_allCells_24 rfl 1 rfl ?_
      cases h
      exact r_iret (pc := 25) rfl rfl (Nat.le_refl 0) (Nat.le_refl 0) dX12_allCells_25
    · replace h := (if_neg c_1).symm.trans h
      refine r_iload_n (pc := 10) (i := 1) dX12_allCells_10 rfl 1 rfl ?_
      refine r_aload_n (pc := 11) (i := 0) dX12_allCells_11 rfl 0 rfl ?_
      refine r_iload_n (pc := 12) (i := 2) dX12_allCells_12 rfl 2 rfl ?_
      obtain ⟨q_2, hq_2, h⟩ := ob h
      refine r_cV (pc := 13) (Y := xX12_weightOf) (As := [.int (eI x2)]) (rest := [.int (eI x1)]) (v := (some (.int (eI q_2)))) (st1 := [.int (eI q_2), .int (eI x1)]) ck_X12_allCells_545 (kX12_weightOf a0 x2 M oa0 hq_2) oa0 rfl rfl rfl rfl (Nat.le_of_ble_eq_true rfl) ⟨rfl, rfl⟩ rfl dX12_allCells_13 ?_
      refine r_iadd (pc := 16) dX12_allCells_16 ?_
      refine r_istore_n (pc := 17) (i := 1) (lv' := [(1, .int (eI (x1 + q_2))), (0, .ref (gA G a0)), (2, .int (eI x2))]) dX12_allCells_17 rfl (Nat.le_of_ble_eq_true rfl) rfl ?_
      obtain ⟨v_3, hv_3, h⟩ := ob h
      refine r_iinc (pc := 18) (y := v_3) (lv' := [(2, .int (eI v_3)), (1, .int (eI (x1 + q_2))), (0, .ref (gA G a0))]) dX12_allCells_18 2 rfl (Option.some.inj hv_3) (Nat.le_of_ble_eq_true rfl) rfl ?_
      refine r_goto (pc := 21) (tgt := 4) dX12_allCells_21 (by decide) ?_
      refine r_sub (lv' := [(0, .ref (gA G a0)), (1, .int (eI (x1 + q_2))), (2, .int (eI v_3))]) [2, 1, 0] rfl ?_
      exact ih _ _ h
set_option maxHeartbeats 4000000 in
set_option maxRecDepth 100000 in
theorem bX12_allCells_b0 {G : GG} (a0 : Nat) (M : MM) (oa0 : OB L0 a0 12)  {res : Int}  (h : sX12_allCells_b0 a0 M = some res) : VV G xX12_allCells (ZM G xX12_allCells (some (.int (eI res))) L0 M) L0 M 0 0 0 [(0, .ref (gA G a0))] [] := by
  unfold sX12_allCells_b0 at h
  refine r_iconst (pc := 0) (v := 0) dX12_allCells_0 (by decide +kernel) ?_
  refine r_istore_n (pc := 1) (i := 1) (lv' := [(1, .int (eI 0)), (0, .ref (gA G a0))]) dX12_allCells_1 rfl (Nat.le_of_ble_eq_true rfl) rfl ?_
  refine r_iconst (pc := 2) (v := 0) dX12_allCells_2 (by decide +kernel) ?_
  refine r_istore_n (pc := 3) (i := 2) (lv' := [(2, .int (eI 0)), (1, .int (eI 0)), (0, .ref (gA G a0))]) dX12_allCells_3 rfl (Nat.le_of_ble_eq_true rfl) rfl ?_
  refine r_sub (lv' := [(0, .ref (gA G a0)), (1, .int (eI 0)), (2, .int (eI 0))]) [2, 1, 0] rfl ?_
  exact bX12_allCells_b4 a0 M oa0 _ _ _ h
theorem kX12_allCells {G : GG} (a0 : Nat) (M : MM) {res : Int} (oa0 : OB L0 a0 12) (h : sX12_allCells a0 M = some res) : CO G xX12_allCells [.ref (gA G a0)] L0 M (some (.int (eI res))) L0 M := CO_of (by decide +kernel) (Nat.le_of_ble_eq_true rfl) (bX12_allCells_b0 a0 M oa0 h)
abbrev xX12_shareOf : XX := (yX12_shareOf, cX12_shareOf, 4, (some .int), 4, 88, 0, 0)
theorem ck_X12_shareOf_542 : CKV xX12_shareOf 542 xX12_picks 1 := ⟨⟨tb_i 2033 (by decide +kernel) (by decide +kernel), tb_i 152 (by decide +kernel) (by decide +kernel), tb_i 2036 (by decide +kernel) (by decide +kernel), ⟨by decide +kernel, by decide +kernel, by decide +kernel⟩, by decide, by decide⟩, tb_i 2035 (by decide +kernel) (by decide +kernel), tb_i 111 (by decide +kernel) (by decide +kernel)⟩
theorem ck_X12_shareOf_545 : CKV xX12_shareOf 545 xX12_weightOf 1 := ⟨⟨tb_i 2049 (by decide +kernel) (by decide +kernel), tb_i 152 (by decide +kernel) (by decide +kernel), tb_i 2052 (by decide +kernel) (by decide +kernel), ⟨by decide +kernel, by decide +kernel, by decide +kernel⟩, by decide, by decide⟩, tb_i 2051 (by decide +kernel) (by decide +kernel), tb_i 114 (by decide +kernel) (by decide +kernel)⟩
def sX12_shareOf_b29 (a0 : Nat) (x1 : Int) (M : MM) (K4 : Int → Int → Option Int) (x3 : Int) (x90 : Int) (x91 : Int) : Option Int := ((some (x3 + 1)).bind fun v_1 => (K4 (x90 + x91) v_1))
def sX12_shareOf_b4 (a0 : Nat) (x1 : Int) (M : MM)  : Nat → Int → Int → Option Int
  | 0, _, _ => none
  | n + 1, x2, x3 => (if 25 ≤ wI x3 then (some (x2)) else ((sX12_picks a0 x3 M).bind fun q_2 => (if wI q_2 = wI x1 then ((sX12_weightOf a0 x3 M).bind fun q_4 => (sX12_shareOf_b29 a0 x1 M (fun x2 x3 => sX12_shareOf_b4 a0 x1 M n x2 x3) x3 x2 q_4)) else (sX12_shareOf_b29 a0 x1 M (fun x2 x3 => sX12_shareOf_b4 a0 x1 M n x2 x3) x3 x2 0))))
def sX12_shareOf_b0 (a0 : Nat) (x1 : Int) (M : MM)   : Option Int := (sX12_shareOf_b4 a0 x1 M FU 0 0)
def sX12_shareOf (a0 : Nat) (x1 : Int) (M : MM) : Option Int := sX12_shareOf_b0 a0 x1 M
set_option maxHeartbeats 4000000 in
set_option maxRecDepth 100000 in
theorem bX12_shareOf_b29 {G : GG} (a0 : Nat) (x1 : Int) (M : MM) (oa0 : OB L0 a0 12) {K4 : Int → Int → Option Int} (x3 : Int) (x90 : Int) (x91 : Int) {res : Int} (hK4 : ∀ (x2 : Int) (x3 : Int), K4 x2 x3 = some res → VV G xX12_shareOf (ZM G xX12_shareOf (some (.int (eI res))) L0 M) L0 M 0 0 4 [(0, .ref (gA G a0)), (1, .int (eI x1)), (2, .int (eI x2)), (3, .int (eI x3))] [])  (h : sX12_shareOf_b29 a0 x1 M K4 x3 x90 x91 = some res) : VV G xX12_shareOf (ZM G xX12_shareOf (some (.int (eI res))) L0 M) L0 M 0 0 29 [(0, .ref (gA G a0)), (1, .int (eI x1)), (3, .int (eI x3))] [.int (eI x91), .int (eI x90)] := by
  unfold sX12_shareOf_b29 at h
  refine r_iadd (pc := 29) dX12_shareOf_29 ?_
  refine r_istore_n (pc := 30) (i := 2) (lv' := [(2, .int (eI (x90 + x91))), (0, .ref (gA G a0)), (1, .int (eI x1)), (3, .int (eI x3))]) dX12_shareOf_30 rfl (Nat.le_of_ble_eq_true rfl) rfl ?_
  obtain ⟨v_1, hv_1, h⟩ := ob h
  refine r_iinc (pc := 31) (y := v_1) (lv' := [(3, .int (eI v_1)), (2, .int (eI (x90 + x91))), (0, .ref (gA G a0)), (1, .int (eI x1))]) dX12_shareOf_31 3 rfl (Option.some.inj hv_1) (Nat.le_of_ble_eq_true rfl) rfl ?_
  refine r_goto (pc := 34) (tgt := 4) dX12_shareOf_34 (by decide) ?_
  refine r_sub (lv' := [(0, .ref (gA G a0)), (1, .int (eI x1)), (2, .int (eI (x90 + x91))), (3, .int (eI v_1))]) [2, 3, 1, 0] rfl ?_
  exact hK4 _ _ h
set_option maxHeartbeats 4000000 in
set_option maxRecDepth 100000 in
theorem bX12_shareOf_b4 {G : GG} (a0 : Nat) (x1 : Int) (M : MM) (oa0 : OB L0 a0 12) {res : Int} : ∀ (n : Nat) (x2 : Int) (x3 : Int)  (h : sX12_shareOf_b4 a0 x1 M n x2 x3 = some res), VV G xX12_shareOf (ZM G xX12_shareOf (some (.int (eI res))) L0 M) L0 M 0 0 4 [(0, .ref (gA G a0)), (1, .int (eI x1)), (2, .int (eI x2)), (3, .int (eI x3))] [] := by
  intro n
  induction n with
  | zero =>
    intro x2 x3 h
    rw [sX12_shareOf_b4] at h
    cases h
  | succ n ih =>
    intro x2 x3 h
    rw [sX12_shareOf_b4] at h
    refine r_iload_n (pc := 4) (i := 3) dX12_shareOf_4 rfl 3 rfl ?_
    refine r_bipush (pc := 5) (v := 25) dX12_shareOf_5 (by decide +kernel) ?_
    refine r_icmp_ge (pc := 7) (tgt := 37) dX12_shareOf_7 (by decide) rfl wl_25 (fun c_1 => ?_) (fun c_1 => ?_)
    · replace h := (if_pos c_1).symm.trans h
      refine r_iload_n (pc := 37) (i := 2) dX12_shareOf_37 rfl 2 rfl ?_
      cases h
      exact r_iret (pc := 38) rfl rfl (Nat.le_refl 0) (Nat.le_refl 0) dX12_shareOf_38
    · replace h := (if_neg c_1).symm.trans h
      refine r_iload_n (pc := 10) (i := 2) dX12_shareOf_10 rfl 2 rfl ?_
      refine r_aload_n (pc := 11) (i := 0) dX12_shareOf_11 rfl 0 rfl ?_
      refine r_iload_n (pc := 12) (i := 3) dX12_shareOf_12 rfl 3 rfl ?_
      obtain ⟨q_2, hq_2, h⟩ := ob h
      refine r_cV (pc := 13) (Y := xX12_picks) (As := [.int (eI x3)]) (rest := [.int (eI x2)]) (v := (some (.int (eI q_2)))) (st1 := [.int (eI q_2), .int (eI x2)]) ck_X12_shareOf_542 (kX12_picks a0 x3 M oa0 hq_2) oa0 rfl rfl rfl rfl (Nat.le_of_ble_eq_true rfl) ⟨rfl, rfl⟩ rfl dX12_shareOf_13 ?_
      refine r_iload_n (pc := 16) (i := 1) dX12_shareOf_16 rfl 1 rfl ?_
      refine r_icmp_ne (pc := 17) (tgt := 28) dX12_shareOf_17 (by decide) rfl rfl (fun c_3 => ?_) (fun c_3 => ?_)
      · replace h := (if_neg c_3).symm.trans h
        refine r_iconst (pc := 28) (v := 0) dX12_shareOf_28 (by decide +kernel) ?_
        refine r_sub (lv' := [(0, .ref (gA G a0)), (1, .int (eI x1)), (3, .int (eI x3))]) [0, 1, 3] rfl ?_
        exact bX12_shareOf_b29 a0 x1 M oa0 _ _ _ (fun v0 v1 v2 => ih v0 v1 v2) h
      · replace h := (if_pos c_3).symm.trans h
        refine r_aload_n (pc := 20) (i := 0) dX12_shareOf_20 rfl 0 rfl ?_
        refine r_iload_n (pc := 21) (i := 3) dX12_shareOf_21 rfl 3 rfl ?_
        obtain ⟨q_4, hq_4, h⟩ := ob h
        refine r_cV (pc := 22) (Y := xX12_weightOf) (As := [.int (eI x3)]) (rest := [.int (eI x2)]) (v := (some (.int (eI q_4)))) (st1 := [.int (eI q_4), .int (eI x2)]) ck_X12_shareOf_545 (kX12_weightOf a0 x3 M oa0 hq_4) oa0 rfl rfl rfl rfl (Nat.le_of_ble_eq_true rfl) ⟨rfl, rfl⟩ rfl dX12_shareOf_22 ?_
        refine r_goto (pc := 25) (tgt := 29) dX12_shareOf_25 (by decide) ?_
        refine r_sub (lv' := [(0, .ref (gA G a0)), (1, .int (eI x1)), (3, .int (eI x3))]) [0, 1, 3] rfl ?_
        exact bX12_shareOf_b29 a0 x1 M oa0 _ _ _ (fun v0 v1 v2 => ih v0 v1 v2) h
set_option maxHeartbeats 4000000 in
set_option maxRecDepth 100000 in
theorem bX12_shareOf_b0 {G : GG} (a0 : Nat) (x1 : Int) (M : MM) (oa0 : OB L0 a0 12)  {res : Int}  (h : sX12_shareOf_b0 a0 x1 M = some res) : VV G xX12_shareOf (ZM G xX12_shareOf (some (.int (eI res))) L0 M) L0 M 0 0 0 [(0, .ref (gA G a0)), (1, .int (eI x1))] [] := by
  unfold sX12_shareOf_b0 at h
  refine r_iconst (pc := 0) (v := 0) dX12_shareOf_0 (by decide +kernel) ?_
  refine r_istore_n (pc := 1) (i := 2) (lv' := [(2, .int (eI 0)), (0, .ref (gA G a0)), (1, .int (eI x1))]) dX12_shareOf_1 rfl (Nat.le_of_ble_eq_true rfl) rfl ?_
  refine r_iconst (pc := 2) (v := 0) dX12_shareOf_2 (by decide +kernel) ?_
  refine r_istore_n (pc := 3) (i := 3) (lv' := [(3, .int (eI 0)), (2, .int (eI 0)), (0, .ref (gA G a0)), (1, .int (eI x1))]) dX12_shareOf_3 rfl (Nat.le_of_ble_eq_true rfl) rfl ?_
  refine r_sub (lv' := [(0, .ref (gA G a0)), (1, .int (eI x1)), (2, .int (eI 0)), (3, .int (eI 0))]) [2, 3, 1, 0] rfl ?_
  exact bX12_shareOf_b4 a0 x1 M oa0 _ _ _ h
theorem kX12_shareOf {G : GG} (a0 : Nat) (x1 : Int) (M : MM) {res : Int} (oa0 : OB L0 a0 12) (h : sX12_shareOf a0 x1 M = some res) : CO G xX12_shareOf [.ref (gA G a0), .int (eI x1)] L0 M (some (.int (eI res))) L0 M := CO_of (by decide +kernel) (Nat.le_of_ble_eq_true rfl) (bX12_shareOf_b0 a0 x1 M oa0 h)
abbrev xX12_share : XX := (yX12_share, cX12_share, 6, (some .int), 5, 111, 0, 0)
theorem ck_X12_share_331 : CKV xX12_share 331 xX12_isChild 1 := ⟨⟨tb_i 1792 (by decide +kernel) (by decide +kernel), tb_i 152 (by decide +kernel) (by decide +kernel), tb_i 1795 (by decide +kernel) (by decide +kernel), ⟨by decide +kernel, by decide +kernel, by decide +kernel⟩, by decide, by decide⟩, tb_i 1794 (by decide +kernel) (by decide +kernel), tb_i 74 (by decide +kernel) (by decide +kernel)⟩
theorem ck_X12_share_455 : CKS xX12_share 455 xX12_least 3 := ⟨⟨tb_i 1916 (by decide +kernel) (by decide +kernel), tb_i 152 (by decide +kernel) (by decide +kernel), tb_i 1918 (by decide +kernel) (by decide +kernel), ⟨by decide +kernel, by decide +kernel, by decide +kernel⟩, by decide, by decide⟩, tb_i 1917 (by decide +kernel) (by decide +kernel)⟩
theorem ck_X12_share_533 : CKV xX12_share 533 xX12_layStriker 2 := ⟨⟨tb_i 2020 (by decide +kernel) (by decide +kernel), tb_i 152 (by decide +kernel) (by decide +kernel), tb_i 2023 (by decide +kernel) (by decide +kernel), ⟨by decide +kernel, by decide +kernel, by decide +kernel⟩, by decide, by decide⟩, tb_i 2022 (by decide +kernel) (by decide +kernel), tb_i 110 (by decide +kernel) (by decide +kernel)⟩
theorem ck_X12_share_548 : CKV xX12_share 548 xX12_allCells 0 := ⟨⟨tb_i 2045 (by decide +kernel) (by decide +kernel), tb_i 152 (by decide +kernel) (by decide +kernel), tb_i 2048 (by decide +kernel) (by decide +kernel), ⟨by decide +kernel, by decide +kernel, by decide +kernel⟩, by decide, by decide⟩, tb_i 2047 (by decide +kernel) (by decide +kernel), tb_i 113 (by decide +kernel) (by decide +kernel)⟩
theorem ck_X12_share_551 : CKV xX12_share 551 xX12_shareOf 1 := ⟨⟨tb_i 2053 (by decide +kernel) (by decide +kernel), tb_i 152 (by decide +kernel) (by decide +kernel), tb_i 2056 (by decide +kernel) (by decide +kernel), ⟨by decide +kernel, by decide +kernel, by decide +kernel⟩, by decide, by decide⟩, tb_i 2055 (by decide +kernel) (by decide +kernel), tb_i 115 (by decide +kernel) (by decide +kernel)⟩
def sX12_share_b0 (a0 : Nat) (x1 : Int) (x2 : Int) (x3 : Int) (x4 : Int)   (M : MM) : Option (Int × MM) := ((some (mU M a0 0 0)).bind fun M_1 => ((sX12_layStriker a0 x1 x2 M_1).bind fun q_2 => (if wI (q_2.1) = 0 then (some (((-1), q_2.2))) else ((sX12_isChild a0 x3 q_2.2).bind fun q_4 => (if wI q_4 = 0 then (some (((-1), q_2.2))) else ((sX12_allCells a0 q_2.2).bind fun q_6 => (if wI q_6 = 0 then (if wI x4 = 0 then (some ((0, q_2.2))) else (some ((1, q_2.2)))) else ((sX12_shareOf a0 x3 q_2.2).bind fun q_8 => ((sX12_least (wI q_8) (wI q_6) x4).bind fun q_9 => (some ((q_9, q_2.2))))))))))))
def sX12_share (a0 : Nat) (x1 : Int) (x2 : Int) (x3 : Int) (x4 : Int) (M : MM) : Option (Int × MM) := sX12_share_b0 a0 x1 x2 x3 x4 M
set_option maxHeartbeats 4000000 in
set_option maxRecDepth 100000 in
theorem bX12_share_b0 {G : GG} (a0 : Nat) (x1 : Int) (x2 : Int) (x3 : Int) (x4 : Int) (oa0 : OB L0 a0 12)  (M : MM) {res : (Int × MM)}  (h : sX12_share_b0 a0 x1 x2 x3 x4 M = some res) : VV G xX12_share (ZM G xX12_share (some (.int (eI res.1))) L0 res.2) L0 M 0 0 0 [(0, .ref (gA G a0)), (1, .int (eI x1)), (2, .int (eI x2)), (3, .int (eI x3)), (4, .int (eI x4))] [] := by
  unfold sX12_share_b0 at h
  refine r_aload_n (pc := 0) (i := 0) dX12_share_0 rfl 0 rfl ?_
  refine r_iconst (pc := 1) (v := 0) dX12_share_1 (by decide +kernel) ?_
  obtain ⟨M_1, hM_1, h⟩ := ob h
  refine r_putI (pc := 2) fg_12_97 rfl oa0 hM_1 rfl rfl dX12_share_2 ?_
  refine r_aload_n (pc := 5) (i := 0) dX12_share_5 rfl 0 rfl ?_
  refine r_iload_n (pc := 6) (i := 1) dX12_share_6 rfl 1 rfl ?_
  refine r_iload_n (pc := 7) (i := 2) dX12_share_7 rfl 2 rfl ?_
  obtain ⟨q_2, hq_2, h⟩ := ob h
  refine r_cV (pc := 8) (Y := xX12_layStriker) (As := [.int (eI x1), .int (eI x2)]) (rest := []) (v := (some (.int (eI (q_2.1))))) (st1 := [.int (eI (q_2.1))]) ck_X12_share_533 (kX12_layStriker a0 x1 x2 M_1 oa0 hq_2) oa0 rfl rfl rfl rfl (Nat.le_of_ble_eq_true rfl) ⟨rfl, rfl⟩ rfl dX12_share_8 ?_
  refine r_if_eq (pc := 11) (tgt := 22) dX12_share_11 (by decide) rfl (fun c_3 => ?_) (fun c_3 => ?_)
  · replace h := (if_pos c_3).symm.trans h
    refine r_iconst (pc := 22) (v := (-1)) dX12_share_22 (by decide +kernel) ?_
    cases h
    exact r_iret (pc := 23) rfl rfl (Nat.le_refl 0) (Nat.le_refl 0) dX12_share_23
  · replace h := (if_neg c_3).symm.trans h
    refine r_aload_n (pc := 14) (i := 0) dX12_share_14 rfl 0 rfl ?_
    refine r_iload_n (pc := 15) (i := 3) dX12_share_15 rfl 3 rfl ?_
    obtain ⟨q_4, hq_4, h⟩ := ob h
    refine r_cV (pc := 16) (Y := xX12_isChild) (As := [.int (eI x3)]) (rest := []) (v := (some (.int (eI q_4)))) (st1 := [.int (eI q_4)]) ck_X12_share_331 (kX12_isChild a0 x3 q_2.2 oa0 hq_4) oa0 rfl rfl rfl rfl (Nat.le_of_ble_eq_true rfl) ⟨rfl, rfl⟩ rfl dX12_share_16 ?_
    refine r_if_ne (pc := 19) (tgt := 24) dX12_share_19 (by decide) rfl (fun c_5 => ?_) (fun c_5 => ?_)
    · replace h := (if_neg c_5).symm.trans h
      refine r_aload_n (pc := 24) (i := 0) dX12_share_24 rfl 0 rfl ?_
      obtain ⟨q_6, hq_6, h⟩ := ob h
      refine r_cV (pc := 25) (Y := xX12_allCells) (As := []) (rest := []) (v := (some (.int (eI q_6)))) (st1 := [.int (eI q_6)]) ck_X12_share_548 (kX12_allCells a0 q_2.2 oa0 hq_6) oa0 rfl rfl rfl rfl (Nat.le_of_ble_eq_true rfl) ⟨rfl, rfl⟩ rfl dX12_share_25 ?_
      refine r_istore (pc := 28) (lv' := [(5, .int (eI q_6)), (0, .ref (gA G a0)), (1, .int (eI x1)), (2, .int (eI x2)), (3, .int (eI x3)), (4, .int (eI x4))]) dX12_share_28 (Nat.le_of_ble_eq_true rfl) rfl ?_
      refine r_iload (pc := 30) dX12_share_30 0 rfl ?_
      refine r_if_ne (pc := 32) (tgt := 48) dX12_share_32 (by decide) rfl (fun c_7 => ?_) (fun c_7 => ?_)
      · replace h := (if_neg c_7).symm.trans h
        refine r_aload_n (pc := 48) (i := 0) dX12_share_48 rfl 1 rfl ?_
        refine r_iload_n (pc := 49) (i := 3) dX12_share_49 rfl 4 rfl ?_
        obtain ⟨q_8, hq_8, h⟩ := ob h
        refine r_cV (pc := 50) (Y := xX12_shareOf) (As := [.int (eI x3)]) (rest := []) (v := (some (.int (eI q_8)))) (st1 := [.int (eI q_8)]) ck_X12_share_551 (kX12_shareOf a0 x3 q_2.2 oa0 hq_8) oa0 rfl rfl rfl rfl (Nat.le_of_ble_eq_true rfl) ⟨rfl, rfl⟩ rfl dX12_share_50 ?_
        refine r_i2l (pc := 53) rfl dX12_share_53 ?_
        refine r_iload (pc := 54) dX12_share_54 0 rfl ?_
        refine r_i2l (pc := 56) rfl dX12_share_56 ?_
        refine r_iload (pc := 57) dX12_share_57 5 rfl ?_
        obtain ⟨q_9, hq_9, h⟩ := ob h
        refine r_cS (pc := 59) (Y := xX12_least) (As := [.long (eJ (wI q_8)), .long (eJ (wI q_6)), .int (eI x4)]) (rest := []) (v := (some (.long (eJ q_9)))) (st1 := [.long (eJ q_9)]) ck_X12_share_455 (kX12_least (wI q_8) (wI q_6) x4 q_2.2  hq_9) rfl rfl (Nat.le_of_ble_eq_true rfl) ⟨rfl, rfl⟩ rfl dX12_share_59 ?_
        refine r_l2i (pc := 62) dX12_share_62 ?_
        cases h
        exact r_iret (pc := 63) rfl rfl (Nat.le_refl 0) (Nat.le_refl 0) dX12_share_63
      · replace h := (if_pos c_7).symm.trans h
        refine r_iload (pc := 35) dX12_share_35 5 rfl ?_
        refine r_if_eq (pc := 37) (tgt := 44) dX12_share_37 (by decide) rfl (fun c_10 => ?_) (fun c_10 => ?_)
        · replace h := (if_pos c_10).symm.trans h
          refine r_iconst (pc := 44) (v := 0) dX12_share_44 (by decide +kernel) ?_
          refine r_goto (pc := 45) (tgt := 63) dX12_share_45 (by decide) ?_
          cases h
          exact r_iret (pc := 63) rfl rfl (Nat.le_refl 0) (Nat.le_refl 0) dX12_share_63
        · replace h := (if_neg c_10).symm.trans h
          refine r_iconst (pc := 40) (v := 1) dX12_share_40 (by decide +kernel) ?_
          refine r_goto (pc := 41) (tgt := 63) dX12_share_41 (by decide) ?_
          cases h
          exact r_iret (pc := 63) rfl rfl (Nat.le_refl 0) (Nat.le_refl 0) dX12_share_63
    · replace h := (if_pos c_5).symm.trans h
      refine r_iconst (pc := 22) (v := (-1)) dX12_share_22 (by decide +kernel) ?_
      cases h
      exact r_iret (pc := 23) rfl rfl (Nat.le_refl 0) (Nat.le_refl 0) dX12_share_23
theorem kX12_share {G : GG} (a0 : Nat) (x1 : Int) (x2 : Int) (x3 : Int) (x4 : Int) (M : MM) {res : (Int × MM)} (oa0 : OB L0 a0 12) (h : sX12_share a0 x1 x2 x3 x4 M = some res) : CO G xX12_share [.ref (gA G a0), .int (eI x1), .int (eI x2), .int (eI x3), .int (eI x4)] L0 M (some (.int (eI res.1))) L0 res.2 := CO_of (by decide +kernel) (Nat.le_of_ble_eq_true rfl) (bX12_share_b0 a0 x1 x2 x3 x4 oa0 M h)
abbrev xX12_stand : XX := (yX12_stand, cX12_stand, 8, (some .int), 5, 111, 0, 0)
theorem ck_X12_stand_167 : CKS xX12_stand 167 xX12_greater 2 := ⟨⟨tb_i 1700 (by decide +kernel) (by decide +kernel), tb_i 152 (by decide +kernel) (by decide +kernel), tb_i 1702 (by decide +kernel) (by decide +kernel), ⟨by decide +kernel, by decide +kernel, by decide +kernel⟩, by decide, by decide⟩, tb_i 1701 (by decide +kernel) (by decide +kernel)⟩
theorem ck_X12_stand_313 : CKV xX12_stand 313 xX12_of 1 := ⟨⟨tb_i 1784 (by decide +kernel) (by decide +kernel), tb_i 152 (by decide +kernel) (by decide +kernel), tb_i 1787 (by decide +kernel) (by decide +kernel), ⟨by decide +kernel, by decide +kernel, by decide +kernel⟩, by decide, by decide⟩, tb_i 1786 (by decide +kernel) (by decide +kernel), tb_i 73 (by decide +kernel) (by decide +kernel)⟩
theorem ck_X12_stand_331 : CKV xX12_stand 331 xX12_isChild 1 := ⟨⟨tb_i 1792 (by decide +kernel) (by decide +kernel), tb_i 152 (by decide +kernel) (by decide +kernel), tb_i 1795 (by decide +kernel) (by decide +kernel), ⟨by decide +kernel, by decide +kernel, by decide +kernel⟩, by decide, by decide⟩, tb_i 1794 (by decide +kernel) (by decide +kernel), tb_i 74 (by decide +kernel) (by decide +kernel)⟩
theorem ck_X12_stand_533 : CKV xX12_stand 533 xX12_layStriker 2 := ⟨⟨tb_i 2020 (by decide +kernel) (by decide +kernel), tb_i 152 (by decide +kernel) (by decide +kernel), tb_i 2023 (by decide +kernel) (by decide +kernel), ⟨by decide +kernel, by decide +kernel, by decide +kernel⟩, by decide, by decide⟩, tb_i 2022 (by decide +kernel) (by decide +kernel), tb_i 110 (by decide +kernel) (by decide +kernel)⟩
theorem ck_X12_stand_536 : CKS xX12_stand 536 xX12_ringOf 1 := ⟨⟨tb_i 2024 (by decide +kernel) (by decide +kernel), tb_i 152 (by decide +kernel) (by decide +kernel), tb_i 2026 (by decide +kernel) (by decide +kernel), ⟨by decide +kernel, by decide +kernel, by decide +kernel⟩, by decide, by decide⟩, tb_i 2025 (by decide +kernel) (by decide +kernel)⟩
theorem ck_X12_stand_551 : CKV xX12_stand 551 xX12_shareOf 1 := ⟨⟨tb_i 2053 (by decide +kernel) (by decide +kernel), tb_i 152 (by decide +kernel) (by decide +kernel), tb_i 2056 (by decide +kernel) (by decide +kernel), ⟨by decide +kernel, by decide +kernel, by decide +kernel⟩, by decide, by decide⟩, tb_i 2055 (by decide +kernel) (by decide +kernel), tb_i 115 (by decide +kernel) (by decide +kernel)⟩
def sX12_stand_b99 (a0 : Nat) (x1 : Int) (x2 : Int) (x3 : Int) (K38 : Int → Int → Int → MM → Option (Int × MM)) (x4 : Int) (x5 : Int) (x6 : Int) (M : MM) : Option (Int × MM) := ((some (x6 + 1)).bind fun v_1 => (K38 x4 x5 v_1 M))
def sX12_stand_b88 (a0 : Nat) (x1 : Int) (x2 : Int) (x3 : Int) (K38 : Int → Int → Int → MM → Option (Int × MM)) (x5 : Int) (x6 : Int) (x7 : Int) (x90 : Int) (M : MM) : Option (Int × MM) := (sX12_stand_b99 a0 x1 x2 x3 K38 x90 (sX12_greater x5 x7) x6 M)
def sX12_stand_b38 (a0 : Nat) (x1 : Int) (x2 : Int) (x3 : Int)  : Nat → Int → Int → Int → MM → Option (Int × MM)
  | 0, _, _, _, _ => none
  | n + 1, x4, x5, x6, M => (if 25 ≤ wI x6 then (some ((x4, M))) else ((sX12_of a0 6 M).bind fun q_2 => (if wI (sX12_ringOf x6) ≤ wI q_2 then (sX12_stand_b99 a0 x1 x2 x3 (fun x4 x5 x6 M => sX12_stand_b38 a0 x1 x2 x3 n x4 x5 x6 M) x4 x5 x6 M) else (if 0 ≤ wI x3 ∧ wI x3 < 8 then ((some (mU M (gR a0 59) (wI x3).toNat x6)).bind fun M_6 => ((sX12_shareOf a0 x3 M_6).bind fun q_7 => (if wI q_7 ≤ wI x5 then (sX12_stand_b88 a0 x1 x2 x3 (fun x4 x5 x6 M => sX12_stand_b38 a0 x1 x2 x3 n x4 x5 x6 M) x5 x6 q_7 x4 M_6) else (sX12_stand_b88 a0 x1 x2 x3 (fun x4 x5 x6 M => sX12_stand_b38 a0 x1 x2 x3 n x4 x5 x6 M) x5 x6 q_7 x6 M_6)))) else none))))
def sX12_stand_b0 (a0 : Nat) (x1 : Int) (x2 : Int) (x3 : Int)   (M : MM) : Option (Int × MM) := ((some (mU M a0 0 0)).bind fun M_1 => ((sX12_layStriker a0 x1 x2 M_1).bind fun q_2 => (if wI (q_2.1) = 0 then (some (((-1), q_2.2))) else ((sX12_isChild a0 x3 q_2.2).bind fun q_4 => (if wI q_4 = 0 then (some (((-1), q_2.2))) else (if wI x3 = wI x2 then (some (((-1), q_2.2))) else (sX12_stand_b38 a0 x1 x2 x3 FU (-1) (-1) 0 q_2.2)))))))
def sX12_stand (a0 : Nat) (x1 : Int) (x2 : Int) (x3 : Int) (M : MM) : Option (Int × MM) := sX12_stand_b0 a0 x1 x2 x3 M
set_option maxHeartbeats 4000000 in
set_option maxRecDepth 100000 in
theorem bX12_stand_b99 {G : GG} (a0 : Nat) (x1 : Int) (x2 : Int) (x3 : Int) (oa0 : OB L0 a0 12) {K38 : Int → Int → Int → MM → Option (Int × MM)} (x4 : Int) (x5 : Int) (x6 : Int) (M : MM) {res : (Int × MM)} (hK38 : ∀ (x4 : Int) (x5 : Int) (x6 : Int) (M : MM), K38 x4 x5 x6 M = some res → VV G xX12_stand (ZM G xX12_stand (some (.int (eI res.1))) L0 res.2) L0 M 0 0 38 [(0, .ref (gA G a0)), (3, .int (eI x3)), (4, .int (eI x4)), (5, .int (eI x5)), (6, .int (eI x6))] [])  (h : sX12_stand_b99 a0 x1 x2 x3 K38 x4 x5 x6 M = some res) : VV G xX12_stand (ZM G xX12_stand (some (.int (eI res.1))) L0 res.2) L0 M 0 0 99 [(0, .ref (gA G a0)), (3, .int (eI x3)), (4, .int (eI x4)), (5, .int (eI x5)), (6, .int (eI x6))] [] := by
  unfold sX12_stand_b99 at h
  obtain ⟨v_1, hv_1, h⟩ := ob h
  refine r_iinc (pc := 99) (y := v_1) (lv' := [(6, .int (eI v_1)), (0, .ref (gA G a0)), (3, .int (eI x3)), (4, .int (eI x4)), (5, .int (eI x5))]) dX12_stand_99 4 rfl (Option.some.inj hv_1) (Nat.le_of_ble_eq_true rfl) rfl ?_
  refine r_goto (pc := 102) (tgt := 38) dX12_stand_102 (by decide) ?_
  refine r_sub (lv' := [(0, .ref (gA G a0)), (3, .int (eI x3)), (4, .int (eI x4)), (5, .int (eI x5)), (6, .int (eI v_1))]) [1, 2, 3, 4, 0] rfl ?_
  exact hK38 _ _ _ _ h
set_option maxHeartbeats 4000000 in
set_option maxRecDepth 100000 in
theorem bX12_stand_b88 {G : GG} (a0 : Nat) (x1 : Int) (x2 : Int) (x3 : Int) (oa0 : OB L0 a0 12) {K38 : Int → Int → Int → MM → Option (Int × MM)} (x5 : Int) (x6 : Int) (x7 : Int) (x90 : Int) (M : MM) {res : (Int × MM)} (hK38 : ∀ (x4 : Int) (x5 : Int) (x6 : Int) (M : MM), K38 x4 x5 x6 M = some res → VV G xX12_stand (ZM G xX12_stand (some (.int (eI res.1))) L0 res.2) L0 M 0 0 38 [(0, .ref (gA G a0)), (3, .int (eI x3)), (4, .int (eI x4)), (5, .int (eI x5)), (6, .int (eI x6))] [])  (h : sX12_stand_b88 a0 x1 x2 x3 K38 x5 x6 x7 x90 M = some res) : VV G xX12_stand (ZM G xX12_stand (some (.int (eI res.1))) L0 res.2) L0 M 0 0 88 [(0, .ref (gA G a0)), (3, .int (eI x3)), (5, .int (eI x5)), (6, .int (eI x6)), (7, .int (eI x7))] [.int (eI x90)] := by
  unfold sX12_stand_b88 at h
  refine r_istore (pc := 88) (lv' := [(4, .int (eI x90)), (0, .ref (gA G a0)), (3, .int (eI x3)), (5, .int (eI x5)), (6, .int (eI x6)), (7, .int (eI x7))]) dX12_stand_88 (Nat.le_of_ble_eq_true rfl) rfl ?_
  refine r_iload (pc := 90) dX12_stand_90 3 rfl ?_
  refine r_iload (pc := 92) dX12_stand_92 5 rfl ?_
  refine r_cS (pc := 94) (Y := xX12_greater) (As := [.int (eI x5), .int (eI x7)]) (rest := []) (v := (some (.int (eI (sX12_greater x5 x7))))) (st1 := [.int (eI (sX12_greater x5 x7))]) ck_X12_stand_167 (kX12_greater x5 x7 M ) rfl rfl (Nat.le_of_ble_eq_true rfl) ⟨rfl, rfl⟩ rfl dX12_stand_94 ?_
  refine r_istore (pc := 97) (lv' := [(5, .int (eI (sX12_greater x5 x7))), (4, .int (eI x90)), (0, .ref (gA G a0)), (3, .int (eI x3)), (6, .int (eI x6)), (7, .int (eI x7))]) dX12_stand_97 (Nat.le_of_ble_eq_true rfl) rfl ?_
  refine r_sub (lv' := [(0, .ref (gA G a0)), (3, .int (eI x3)), (4, .int (eI x90)), (5, .int (eI (sX12_greater x5 x7))), (6, .int (eI x6))]) [2, 3, 1, 0, 4] rfl ?_
  exact bX12_stand_b99 a0 x1 x2 x3 oa0 _ _ _ _ hK38 h
set_option maxHeartbeats 4000000 in
set_option maxRecDepth 100000 in
theorem bX12_stand_b38 {G : GG} (a0 : Nat) (x1 : Int) (x2 : Int) (x3 : Int) (oa0 : OB L0 a0 12) {res : (Int × MM)} : ∀ (n : Nat) (x4 : Int) (x5 : Int) (x6 : Int) (M : MM)  (h : sX12_stand_b38 a0 x1 x2 x3 n x4 x5 x6 M = some res), VV G xX12_stand (ZM G xX12_stand (some (.int (eI res.1))) L0 res.2) L0 M 0 0 38 [(0, .ref (gA G a0)), (3, .int (eI x3)), (4, .int (eI x4)), (5, .int (eI x5)), (6, .int (eI x6))] [] := by
  intro n
  induction n with
  | zero =>
    intro x4 x5 x6 M h
    rw [sX12_stand_b38] at h
    cases h
  | succ n ih =>
    intro x4 x5 x6 M h
    rw [sX12_stand_b38] at h
    refine r_iload (pc := 38) dX12_stand_38 4 rfl ?_
    refine r_bipush (pc := 40) (v := 25) dX12_stand_40 (by decide +kernel) ?_
    refine r_icmp_ge (pc := 42) (tgt := 105) dX12_stand_42 (by decide) rfl wl_25 (fun c_1 => ?_) (fun c_1 => ?_)
    · replace h := (if_pos c_1).symm.trans h
      refine r_iload (pc := 105) dX12_stand_105 2 rfl ?_
      cases h
      exact r_iret (pc := 107) rfl rfl (Nat.le_refl 0) (Nat.le_refl 0) dX12_stand_107
    · replace h := (if_neg c_1).symm.trans h
      refine r_iload (pc := 45) dX12_stand_45 4 rfl ?_
      refine r_cS (pc := 47) (Y := xX12_ringOf) (As := [.int (eI x6)]) (rest := []) (v := (some (.int (eI (sX12_ringOf x6))))) (st1 := [.int (eI (sX12_ringOf x6))]) ck_X12_stand_536 (kX12_ringOf x6 M ) rfl rfl (Nat.le_of_ble_eq_true rfl) ⟨rfl, rfl⟩ rfl dX12_stand_47 ?_
      refine r_aload_n (pc := 50) (i := 0) dX12_stand_50 rfl 0 rfl ?_
      refine r_bipush (pc := 51) (v := 6) dX12_stand_51 (by decide +kernel) ?_
      obtain ⟨q_2, hq_2, h⟩ := ob h
      refine r_cV (pc := 53) (Y := xX12_of) (As := [.int (eI 6)]) (rest := [.int (eI (sX12_ringOf x6))]) (v := (some (.int (eI q_2)))) (st1 := [.int (eI q_2), .int (eI (sX12_ringOf x6))]) ck_X12_stand_313 (kX12_of a0 6 M oa0 hq_2) oa0 rfl rfl rfl rfl (Nat.le_of_ble_eq_true rfl) ⟨rfl, rfl⟩ rfl dX12_stand_53 ?_
      refine r_icmp_le (pc := 56) (tgt := 99) dX12_stand_56 (by decide) rfl rfl (fun c_3 => ?_) (fun c_3 => ?_)
      · replace h := (if_pos c_3).symm.trans h
        refine r_sub (lv' := [(0, .ref (gA G a0)), (3, .int (eI x3)), (4, .int (eI x4)), (5, .int (eI x5)), (6, .int (eI x6))]) [0, 1, 2, 3, 4] rfl ?_
        exact bX12_stand_b99 a0 x1 x2 x3 oa0 _ _ _ _ (fun v0 v1 v2 v3 v4 => ih v0 v1 v2 v3 v4) h
      · replace h := (if_neg c_3).symm.trans h
        refine r_aload_n (pc := 59) (i := 0) dX12_stand_59 rfl 0 rfl ?_
        have o_4 := (wt_12_59 oa0).2
        refine r_getR (pc := 60) fg_12_84 rfl oa0 (wt_12_59 oa0).1 dX12_stand_60 ?_
        refine r_iload_n (pc := 63) (i := 3) dX12_stand_63 rfl 1 rfl ?_
        refine r_iload (pc := 64) dX12_stand_64 4 rfl ?_
        obtain ⟨c_5, h⟩ := og h
        obtain ⟨M_6, hM_6, h⟩ := ob h
        refine r_iast (pc := 66) o_4 rfl c_5 rfl hM_6 dX12_stand_66 ?_
        refine r_aload_n (pc := 67) (i := 0) dX12_stand_67 rfl 0 rfl ?_
        refine r_iload_n (pc := 68) (i := 3) dX12_stand_68 rfl 1 rfl ?_
        obtain ⟨q_7, hq_7, h⟩ := ob h
        refine r_cV (pc := 69) (Y := xX12_shareOf) (As := [.int (eI x3)]) (rest := []) (v := (some (.int (eI q_7)))) (st1 := [.int (eI q_7)]) ck_X12_stand_551 (kX12_shareOf a0 x3 M_6 oa0 hq_7) oa0 rfl rfl rfl rfl (Nat.le_of_ble_eq_true rfl) ⟨rfl, rfl⟩ rfl dX12_stand_69 ?_
        refine r_istore (pc := 72) (lv' := [(7, .int (eI q_7)), (0, .ref (gA G a0)), (3, .int (eI x3)), (4, .int (eI x4)), (5, .int (eI x5)), (6, .int (eI x6))]) dX12_stand_72 (Nat.le_of_ble_eq_true rfl) rfl ?_
        refine r_iload (pc := 74) dX12_stand_74 0 rfl ?_
        refine r_iload (pc := 76) dX12_stand_76 4 rfl ?_
        refine r_icmp_le (pc := 78) (tgt := 86) dX12_stand_78 (by decide) rfl rfl (fun c_8 => ?_) (fun c_8 => ?_)
        · replace h := (if_pos c_8).symm.trans h
          refine r_iload (pc := 86) dX12_stand_86 3 rfl ?_
          refine r_sub (lv' := [(0, .ref (gA G a0)), (3, .int (eI x3)), (5, .int (eI x5)), (6, .int (eI x6)), (7, .int (eI q_7))]) [1, 2, 4, 5, 0] rfl ?_
          exact bX12_stand_b88 a0 x1 x2 x3 oa0 _ _ _ _ _ (fun v0 v1 v2 v3 v4 => ih v0 v1 v2 v3 v4) h
        · replace h := (if_neg c_8).symm.trans h
          refine r_iload (pc := 81) dX12_stand_81 5 rfl ?_
          refine r_goto (pc := 83) (tgt := 88) dX12_stand_83 (by decide) ?_
          refine r_sub (lv' := [(0, .ref (gA G a0)), (3, .int (eI x3)), (5, .int (eI x5)), (6, .int (eI x6)), (7, .int (eI q_7))]) [1, 2, 4, 5, 0] rfl ?_
          exact bX12_stand_b88 a0 x1 x2 x3 oa0 _ _ _ _ _ (fun v0 v1 v2 v3 v4 => ih v0 v1 v2 v3 v4) h
set_option maxHeartbeats 4000000 in
set_option maxRecDepth 100000 in
theorem bX12_stand_b0 {G : GG} (a0 : Nat) (x1 : Int) (x2 : Int) (x3 : Int) (oa0 : OB L0 a0 12)  (M : MM) {res : (Int × MM)}  (h : sX12_stand_b0 a0 x1 x2 x3 M = some res) : VV G xX12_stand (ZM G xX12_stand (some (.int (eI res.1))) L0 res.2) L0 M 0 0 0 [(0, .ref (gA G a0)), (1, .int (eI x1)), (2, .int (eI x2)), (3, .int (eI x3))] [] := by
  unfold sX12_stand_b0 at h
  refine r_aload_n (pc := 0) (i := 0) dX12_stand_0 rfl 0 rfl ?_
  refine r_iconst (pc := 1) (v := 0) dX12_stand_1 (by decide +kernel) ?_
  obtain ⟨M_1, hM_1, h⟩ := ob h
  refine r_putI (pc := 2) fg_12_97 rfl oa0 hM_1 rfl rfl dX12_stand_2 ?_
  refine r_aload_n (pc := 5) (i := 0) dX12_stand_5 rfl 0 rfl ?_
  refine r_iload_n (pc := 6) (i := 1) dX12_stand_6 rfl 1 rfl ?_
  refine r_iload_n (pc := 7) (i := 2) dX12_stand_7 rfl 2 rfl ?_
  obtain ⟨q_2, hq_2, h⟩ := ob h
  refine r_cV (pc := 8) (Y := xX12_layStriker) (As := [.int (eI x1), .int (eI x2)]) (rest := []) (v := (some (.int (eI (q_2.1))))) (st1 := [.int (eI (q_2.1))]) ck_X12_stand_533 (kX12_layStriker a0 x1 x2 M_1 oa0 hq_2) oa0 rfl rfl rfl rfl (Nat.le_of_ble_eq_true rfl) ⟨rfl, rfl⟩ rfl dX12_stand_8 ?_
  refine r_if_eq (pc := 11) (tgt := 27) dX12_stand_11 (by decide) rfl (fun c_3 => ?_) (fun c_3 => ?_)
  · replace h := (if_pos c_3).symm.trans h
    refine r_iconst (pc := 27) (v := (-1)) dX12_stand_27 (by decide +kernel) ?_
    cases h
    exact r_iret (pc := 28) rfl rfl (Nat.le_refl 0) (Nat.le_refl 0) dX12_stand_28
  · replace h := (if_neg c_3).symm.trans h
    refine r_aload_n (pc := 14) (i := 0) dX12_stand_14 rfl 0 rfl ?_
    refine r_iload_n (pc := 15) (i := 3) dX12_stand_15 rfl 3 rfl ?_
    obtain ⟨q_4, hq_4, h⟩ := ob h
    refine r_cV (pc := 16) (Y := xX12_isChild) (As := [.int (eI x3)]) (rest := []) (v := (some (.int (eI q_4)))) (st1 := [.int (eI q_4)]) ck_X12_stand_331 (kX12_isChild a0 x3 q_2.2 oa0 hq_4) oa0 rfl rfl rfl rfl (Nat.le_of_ble_eq_true rfl) ⟨rfl, rfl⟩ rfl dX12_stand_16 ?_
    refine r_if_eq (pc := 19) (tgt := 27) dX12_stand_19 (by decide) rfl (fun c_5 => ?_) (fun c_5 => ?_)
    · replace h := (if_pos c_5).symm.trans h
      refine r_iconst (pc := 27) (v := (-1)) dX12_stand_27 (by decide +kernel) ?_
      cases h
      exact r_iret (pc := 28) rfl rfl (Nat.le_refl 0) (Nat.le_refl 0) dX12_stand_28
    · replace h := (if_neg c_5).symm.trans h
      refine r_iload_n (pc := 22) (i := 3) dX12_stand_22 rfl 3 rfl ?_
      refine r_iload_n (pc := 23) (i := 2) dX12_stand_23 rfl 2 rfl ?_
      refine r_icmp_ne (pc := 24) (tgt := 29) dX12_stand_24 (by decide) rfl rfl (fun c_6 => ?_) (fun c_6 => ?_)
      · replace h := (if_neg c_6).symm.trans h
        refine r_iconst (pc := 29) (v := (-1)) dX12_stand_29 (by decide +kernel) ?_
        refine r_istore (pc := 30) (lv' := [(4, .int (eI (-1))), (0, .ref (gA G a0)), (1, .int (eI x1)), (2, .int (eI x2)), (3, .int (eI x3))]) dX12_stand_30 (Nat.le_of_ble_eq_true rfl) rfl ?_
        refine r_iconst (pc := 32) (v := (-1)) dX12_stand_32 (by decide +kernel) ?_
        refine r_istore (pc := 33) (lv' := [(5, .int (eI (-1))), (4, .int (eI (-1))), (0, .ref (gA G a0)), (1, .int (eI x1)), (2, .int (eI x2)), (3, .int (eI x3))]) dX12_stand_33 (Nat.le_of_ble_eq_true rfl) rfl ?_
        refine r_iconst (pc := 35) (v := 0) dX12_stand_35 (by decide +kernel) ?_
        refine r_istore (pc := 36) (lv' := [(6, .int (eI 0)), (5, .int (eI (-1))), (4, .int (eI (-1))), (0, .ref (gA G a0)), (1, .int (eI x1)), (2, .int (eI x2)), (3, .int (eI x3))]) dX12_stand_36 (Nat.le_of_ble_eq_true rfl) rfl ?_
        refine r_sub (lv' := [(0, .ref (gA G a0)), (3, .int (eI x3)), (4, .int (eI (-1))), (5, .int (eI (-1))), (6, .int (eI 0))]) [3, 6, 2, 1, 0] rfl ?_
        exact bX12_stand_b38 a0 x1 x2 x3 oa0 _ _ _ _ _ h
      · replace h := (if_pos c_6).symm.trans h
        refine r_iconst (pc := 27) (v := (-1)) dX12_stand_27 (by decide +kernel) ?_
        cases h
        exact r_iret (pc := 28) rfl rfl (Nat.le_refl 0) (Nat.le_refl 0) dX12_stand_28
theorem kX12_stand {G : GG} (a0 : Nat) (x1 : Int) (x2 : Int) (x3 : Int) (M : MM) {res : (Int × MM)} (oa0 : OB L0 a0 12) (h : sX12_stand a0 x1 x2 x3 M = some res) : CO G xX12_stand [.ref (gA G a0), .int (eI x1), .int (eI x2), .int (eI x3)] L0 M (some (.int (eI res.1))) L0 res.2 := CO_of (by decide +kernel) (Nat.le_of_ble_eq_true rfl) (bX12_stand_b0 a0 x1 x2 x3 oa0 M h)
abbrev xX12_allTurned : XX := (yX12_allTurned, cX12_allTurned, 3, (some .int), 1, 21, 0, 0)
theorem ck_X12_allTurned_313 : CKV xX12_allTurned 313 xX12_of 1 := ⟨⟨tb_i 1784 (by decide +kernel) (by decide +kernel), tb_i 152 (by decide +kernel) (by decide +kernel), tb_i 1787 (by decide +kernel) (by decide +kernel), ⟨by decide +kernel, by decide +kernel, by decide +kernel⟩, by decide, by decide⟩, tb_i 1786 (by decide +kernel) (by decide +kernel), tb_i 73 (by decide +kernel) (by decide +kernel)⟩
def sX12_allTurned_b4 (a0 : Nat) (M : MM)  : Nat → Int → Int → Option Int
  | 0, _, _ => none
  | n + 1, x1, x2 => (if 8 ≤ wI x2 then (some (x1)) else ((sX12_of a0 (7 + x2) M).bind fun q_2 => ((some (x2 + 1)).bind fun v_3 => (sX12_allTurned_b4 a0 M n (x1 + q_2) v_3))))
def sX12_allTurned_b0 (a0 : Nat) (M : MM)   : Option Int := (sX12_allTurned_b4 a0 M FU 0 0)
def sX12_allTurned (a0 : Nat) (M : MM) : Option Int := sX12_allTurned_b0 a0 M
set_option maxHeartbeats 4000000 in
set_option maxRecDepth 100000 in
theorem bX12_allTurned_b4 {G : GG} (a0 : Nat) (M : MM) (oa0 : OB L0 a0 12) {res : Int} : ∀ (n : Nat) (x1 : Int) (x2 : Int)  (h : sX12_allTurned_b4 a0 M n x1 x2 = some res), VV G xX12_allTurned (ZM G xX12_allTurned (some (.int (eI res))) L0 M) L0 M 0 0 4 [(0, .ref (gA G a0)), (1, .int (eI x1)), (2, .int (eI x2))] [] := by
  intro n
  induction n with
  | zero =>
    intro x1 x2 h
    rw [sX12_allTurned_b4] at h
    cases h
  | succ n ih =>
    intro x1 x2 h
    rw [sX12_allTurned_b4] at h
    refine r_iload_n (pc := 4) (i := 2) dX12_allTurned_4 rfl 2 rfl ?_
    refine r_bipush (pc := 5) (v := 8) dX12_allTurned_5 (by decide +kernel) ?_
    refine r_icmp_ge (pc := 7) (tgt := 27) dX12_allTurned_7 (by decide) rfl wl_8 (fun c_1 => ?_) (fun c_1 => ?_)
    · replace h := (if_pos c_1).symm.trans h
      refine r_iload_n (pc := 27) (i := 1) dX12_allTurned_27 rfl 1 rfl ?_
      cases h
      exact r_iret (pc := 28) rfl rfl (Nat.le_refl 0) (Nat.le_refl 0) dX12_allTurned_28
    · replace h := (if_neg c_1).symm.trans h
      refine r_iload_n (pc := 10) (i := 1) dX12_allTurned_10 rfl 1 rfl ?_
      refine r_aload_n (pc := 11) (i := 0) dX12_allTurned_11 rfl 0 rfl ?_
      refine r_bipush (pc := 12) (v := 7) dX12_allTurned_12 (by decide +kernel) ?_
      refine r_iload_n (pc := 14) (i := 2) dX12_allTurned_14 rfl 2 rfl ?_
      refine r_iadd (pc := 15) dX12_allTurned_15 ?_
      obtain ⟨q_2, hq_2, h⟩ := ob h
      refine r_cV (pc := 16) (Y := xX12_of) (As := [.int (eI (7 + x2))]) (rest := [.int (eI x1)]) (v := (some (.int (eI q_2)))) (st1 := [.int (eI q_2), .int (eI x1)]) ck_X12_allTurned_313 (kX12_of a0 (7 + x2) M oa0 hq_2) oa0 rfl rfl rfl rfl (Nat.le_of_ble_eq_true rfl) ⟨rfl, rfl⟩ rfl dX12_allTurned_16 ?_
      refine r_iadd (pc := 19) dX12_allTurned_19 ?_
      refine r_istore_n (pc := 20) (i := 1) (lv' := [(1, .int (eI (x1 + q_2))), (0, .ref (gA G a0)), (2, .int (eI x2))]) dX12_allTurned_20 rfl (Nat.le_of_ble_eq_true rfl) rfl ?_
      obtain ⟨v_3, hv_3, h⟩ := ob h
      refine r_iinc (pc := 21) (y := v_3) (lv' := [(2, .int (eI v_3)), (1, .int (eI (x1 + q_2))), (0, .ref (gA G a0))]) dX12_allTurned_21 2 rfl (Option.some.inj hv_3) (Nat.le_of_ble_eq_true rfl) rfl ?_
      refine r_goto (pc := 24) (tgt := 4) dX12_allTurned_24 (by decide) ?_
      refine r_sub (lv' := [(0, .ref (gA G a0)), (1, .int (eI (x1 + q_2))), (2, .int (eI v_3))]) [2, 1, 0] rfl ?_
      exact ih _ _ h
set_option maxHeartbeats 4000000 in
set_option maxRecDepth 100000 in
theorem bX12_allTurned_b0 {G : GG} (a0 : Nat) (M : MM) (oa0 : OB L0 a0 12)  {res : Int}  (h : sX12_allTurned_b0 a0 M = some res) : VV G xX12_allTurned (ZM G xX12_allTurned (some (.int (eI res))) L0 M) L0 M 0 0 0 [(0, .ref (gA G a0))] [] := by
  unfold sX12_allTurned_b0 at h
  refine r_iconst (pc := 0) (v := 0) dX12_allTurned_0 (by decide +kernel) ?_
  refine r_istore_n (pc := 1) (i := 1) (lv' := [(1, .int (eI 0)), (0, .ref (gA G a0))]) dX12_allTurned_1 rfl (Nat.le_of_ble_eq_true rfl) rfl ?_
  refine r_iconst (pc := 2) (v := 0) dX12_allTurned_2 (by decide +kernel) ?_
  refine r_istore_n (pc := 3) (i := 2) (lv' := [(2, .int (eI 0)), (1, .int (eI 0)), (0, .ref (gA G a0))]) dX12_allTurned_3 rfl (Nat.le_of_ble_eq_true rfl) rfl ?_
  refine r_sub (lv' := [(0, .ref (gA G a0)), (1, .int (eI 0)), (2, .int (eI 0))]) [2, 1, 0] rfl ?_
  exact bX12_allTurned_b4 a0 M oa0 _ _ _ h
theorem kX12_allTurned {G : GG} (a0 : Nat) (M : MM) {res : Int} (oa0 : OB L0 a0 12) (h : sX12_allTurned a0 M = some res) : CO G xX12_allTurned [.ref (gA G a0)] L0 M (some (.int (eI res))) L0 M := CO_of (by decide +kernel) (Nat.le_of_ble_eq_true rfl) (bX12_allTurned_b0 a0 M oa0 h)
abbrev xX12_dangerOf : XX := (yX12_dangerOf, cX12_dangerOf, 4, (some .int), 3, 62, 0, 0)
theorem ck_X12_dangerOf_105 : CKS xX12_dangerOf 105 xX12_in 3 := ⟨⟨tb_i 1622 (by decide +kernel) (by decide +kernel), tb_i 152 (by decide +kernel) (by decide +kernel), tb_i 1624 (by decide +kernel) (by decide +kernel), ⟨by decide +kernel, by decide +kernel, by decide +kernel⟩, by decide, by decide⟩, tb_i 1623 (by decide +kernel) (by decide +kernel)⟩
theorem ck_X12_dangerOf_313 : CKV xX12_dangerOf 313 xX12_of 1 := ⟨⟨tb_i 1784 (by decide +kernel) (by decide +kernel), tb_i 152 (by decide +kernel) (by decide +kernel), tb_i 1787 (by decide +kernel) (by decide +kernel), ⟨by decide +kernel, by decide +kernel, by decide +kernel⟩, by decide, by decide⟩, tb_i 1786 (by decide +kernel) (by decide +kernel), tb_i 73 (by decide +kernel) (by decide +kernel)⟩
theorem ck_X12_dangerOf_334 : CKV xX12_dangerOf 334 xX12_ofChild 2 := ⟨⟨tb_i 1796 (by decide +kernel) (by decide +kernel), tb_i 152 (by decide +kernel) (by decide +kernel), tb_i 1799 (by decide +kernel) (by decide +kernel), ⟨by decide +kernel, by decide +kernel, by decide +kernel⟩, by decide, by decide⟩, tb_i 1798 (by decide +kernel) (by decide +kernel), tb_i 75 (by decide +kernel) (by decide +kernel)⟩
theorem ck_X12_dangerOf_536 : CKS xX12_dangerOf 536 xX12_ringOf 1 := ⟨⟨tb_i 2024 (by decide +kernel) (by decide +kernel), tb_i 152 (by decide +kernel) (by decide +kernel), tb_i 2026 (by decide +kernel) (by decide +kernel), ⟨by decide +kernel, by decide +kernel, by decide +kernel⟩, by decide, by decide⟩, tb_i 2025 (by decide +kernel) (by decide +kernel)⟩
theorem ck_X12_dangerOf_539 : CKS xX12_dangerOf 539 xX12_sideOf 1 := ⟨⟨tb_i 2030 (by decide +kernel) (by decide +kernel), tb_i 152 (by decide +kernel) (by decide +kernel), tb_i 2032 (by decide +kernel) (by decide +kernel), ⟨by decide +kernel, by decide +kernel, by decide +kernel⟩, by decide, by decide⟩, tb_i 2031 (by decide +kernel) (by decide +kernel)⟩
def sX12_dangerOf_b0 (a0 : Nat) (x1 : Int) (x2 : Int) (M : MM)   : Option Int := ((sX12_ofChild a0 x1 4 M).bind fun q_1 => (if wI (sX12_in (sX12_ringOf q_1) 1 x2) = 0 then (some (0)) else ((sX12_of a0 (7 + (Int.tmod (wI (8 - (sX12_sideOf q_1))) 8)) M).bind fun q_3 => (some (q_3)))))
def sX12_dangerOf (a0 : Nat) (x1 : Int) (x2 : Int) (M : MM) : Option Int := sX12_dangerOf_b0 a0 x1 x2 M
set_option maxHeartbeats 4000000 in
set_option maxRecDepth 100000 in
theorem bX12_dangerOf_b0 {G : GG} (a0 : Nat) (x1 : Int) (x2 : Int) (M : MM) (oa0 : OB L0 a0 12)  {res : Int}  (h : sX12_dangerOf_b0 a0 x1 x2 M = some res) : VV G xX12_dangerOf (ZM G xX12_dangerOf (some (.int (eI res))) L0 M) L0 M 0 0 0 [(0, .ref (gA G a0)), (1, .int (eI x1)), (2, .int (eI x2))] [] := by
  unfold sX12_dangerOf_b0 at h
  refine r_aload_n (pc := 0) (i := 0) dX12_dangerOf_0 rfl 0 rfl ?_
  refine r_iload_n (pc := 1) (i := 1) dX12_dangerOf_1 rfl 1 rfl ?_
  refine r_iconst (pc := 2) (v := 4) dX12_dangerOf_2 (by decide +kernel) ?_
  obtain ⟨q_1, hq_1, h⟩ := ob h
  refine r_cV (pc := 3) (Y := xX12_ofChild) (As := [.int (eI x1), .int (eI 4)]) (rest := []) (v := (some (.int (eI q_1)))) (st1 := [.int (eI q_1)]) ck_X12_dangerOf_334 (kX12_ofChild a0 x1 4 M oa0 hq_1) oa0 rfl rfl rfl rfl (Nat.le_of_ble_eq_true rfl) ⟨rfl, rfl⟩ rfl dX12_dangerOf_3 ?_
  refine r_istore_n (pc := 6) (i := 3) (lv' := [(3, .int (eI q_1)), (0, .ref (gA G a0)), (1, .int (eI x1)), (2, .int (eI x2))]) dX12_dangerOf_6 rfl (Nat.le_of_ble_eq_true rfl) rfl ?_
  refine r_iload_n (pc := 7) (i := 3) dX12_dangerOf_7 rfl 0 rfl ?_
  refine r_cS (pc := 8) (Y := xX12_ringOf) (As := [.int (eI q_1)]) (rest := []) (v := (some (.int (eI (sX12_ringOf q_1))))) (st1 := [.int (eI (sX12_ringOf q_1))]) ck_X12_dangerOf_536 (kX12_ringOf q_1 M ) rfl rfl (Nat.le_of_ble_eq_true rfl) ⟨rfl, rfl⟩ rfl dX12_dangerOf_8 ?_
  refine r_iconst (pc := 11) (v := 1) dX12_dangerOf_11 (by decide +kernel) ?_
  refine r_iload_n (pc := 12) (i := 2) dX12_dangerOf_12 rfl 3 rfl ?_
  refine r_cS (pc := 13) (Y := xX12_in) (As := [.int (eI (sX12_ringOf q_1)), .int (eI 1), .int (eI x2)]) (rest := []) (v := (some (.int (eI (sX12_in (sX12_ringOf q_1) 1 x2))))) (st1 := [.int (eI (sX12_in (sX12_ringOf q_1) 1 x2))]) ck_X12_dangerOf_105 (kX12_in (sX12_ringOf q_1) 1 x2 M ) rfl rfl (Nat.le_of_ble_eq_true rfl) ⟨rfl, rfl⟩ rfl dX12_dangerOf_13 ?_
  refine r_if_eq (pc := 16) (tgt := 39) dX12_dangerOf_16 (by decide) rfl (fun c_2 => ?_) (fun c_2 => ?_)
  · replace h := (if_pos c_2).symm.trans h
    refine r_iconst (pc := 39) (v := 0) dX12_dangerOf_39 (by decide +kernel) ?_
    cases h
    exact r_iret (pc := 40) rfl rfl (Nat.le_refl 0) (Nat.le_refl 0) dX12_dangerOf_40
  · replace h := (if_neg c_2).symm.trans h
    refine r_aload_n (pc := 19) (i := 0) dX12_dangerOf_19 rfl 1 rfl ?_
    refine r_bipush (pc := 20) (v := 7) dX12_dangerOf_20 (by decide +kernel) ?_
    refine r_bipush (pc := 22) (v := 8) dX12_dangerOf_22 (by decide +kernel) ?_
    refine r_iload_n (pc := 24) (i := 3) dX12_dangerOf_24 rfl 0 rfl ?_
    refine r_cS (pc := 25) (Y := xX12_sideOf) (As := [.int (eI q_1)]) (rest := [.int (eI 8), .int (eI 7), .ref (gA G a0)]) (v := (some (.int (eI (sX12_sideOf q_1))))) (st1 := [.int (eI (sX12_sideOf q_1)), .int (eI 8), .int (eI 7), .ref (gA G a0)]) ck_X12_dangerOf_539 (kX12_sideOf q_1 M ) rfl rfl (Nat.le_of_ble_eq_true rfl) ⟨rfl, rfl⟩ rfl dX12_dangerOf_25 ?_
    refine r_isub (pc := 28) dX12_dangerOf_28 ?_
    refine r_bipush (pc := 29) (v := 8) dX12_dangerOf_29 (by decide +kernel) ?_
    refine r_irem (pc := 31) dX12_dangerOf_31 rfl wl_8 (by decide) ?_
    refine r_iadd (pc := 32) dX12_dangerOf_32 ?_
    obtain ⟨q_3, hq_3, h⟩ := ob h
    refine r_cV (pc := 33) (Y := xX12_of) (As := [.int (eI (7 + (Int.tmod (wI (8 - (sX12_sideOf q_1))) 8)))]) (rest := []) (v := (some (.int (eI q_3)))) (st1 := [.int (eI q_3)]) ck_X12_dangerOf_313 (kX12_of a0 (7 + (Int.tmod (wI (8 - (sX12_sideOf q_1))) 8)) M oa0 hq_3) oa0 rfl rfl rfl rfl (Nat.le_of_ble_eq_true rfl) ⟨rfl, rfl⟩ rfl dX12_dangerOf_33 ?_
    refine r_goto (pc := 36) (tgt := 40) dX12_dangerOf_36 (by decide) ?_
    cases h
    exact r_iret (pc := 40) rfl rfl (Nat.le_refl 0) (Nat.le_refl 0) dX12_dangerOf_40
theorem kX12_dangerOf {G : GG} (a0 : Nat) (x1 : Int) (x2 : Int) (M : MM) {res : Int} (oa0 : OB L0 a0 12) (h : sX12_dangerOf a0 x1 x2 M = some res) : CO G xX12_dangerOf [.ref (gA G a0), .int (eI x1), .int (eI x2)] L0 M (some (.int (eI res))) L0 M := CO_of (by decide +kernel) (Nat.le_of_ble_eq_true rfl) (bX12_dangerOf_b0 a0 x1 x2 M oa0 h)
abbrev xX12_danger : XX := (yX12_danger, cX12_danger, 4, (some .int), 4, 85, 0, 0)
theorem ck_X12_danger_313 : CKV xX12_danger 313 xX12_of 1 := ⟨⟨tb_i 1784 (by decide +kernel) (by decide +kernel), tb_i 152 (by decide +kernel) (by decide +kernel), tb_i 1787 (by decide +kernel) (by decide +kernel), ⟨by decide +kernel, by decide +kernel, by decide +kernel⟩, by decide, by decide⟩, tb_i 1786 (by decide +kernel) (by decide +kernel), tb_i 73 (by decide +kernel) (by decide +kernel)⟩
theorem ck_X12_danger_328 : CKV xX12_danger 328 xX12_hand 1 := ⟨⟨tb_i 1780 (by decide +kernel) (by decide +kernel), tb_i 152 (by decide +kernel) (by decide +kernel), tb_i 1783 (by decide +kernel) (by decide +kernel), ⟨by decide +kernel, by decide +kernel, by decide +kernel⟩, by decide, by decide⟩, tb_i 1782 (by decide +kernel) (by decide +kernel), tb_i 72 (by decide +kernel) (by decide +kernel)⟩
theorem ck_X12_danger_331 : CKV xX12_danger 331 xX12_isChild 1 := ⟨⟨tb_i 1792 (by decide +kernel) (by decide +kernel), tb_i 152 (by decide +kernel) (by decide +kernel), tb_i 1795 (by decide +kernel) (by decide +kernel), ⟨by decide +kernel, by decide +kernel, by decide +kernel⟩, by decide, by decide⟩, tb_i 1794 (by decide +kernel) (by decide +kernel), tb_i 74 (by decide +kernel) (by decide +kernel)⟩
theorem ck_X12_danger_455 : CKS xX12_danger 455 xX12_least 3 := ⟨⟨tb_i 1916 (by decide +kernel) (by decide +kernel), tb_i 152 (by decide +kernel) (by decide +kernel), tb_i 1918 (by decide +kernel) (by decide +kernel), ⟨by decide +kernel, by decide +kernel, by decide +kernel⟩, by decide, by decide⟩, tb_i 1917 (by decide +kernel) (by decide +kernel)⟩
theorem ck_X12_danger_554 : CKV xX12_danger 554 xX12_dangerOf 2 := ⟨⟨tb_i 2065 (by decide +kernel) (by decide +kernel), tb_i 152 (by decide +kernel) (by decide +kernel), tb_i 2068 (by decide +kernel) (by decide +kernel), ⟨by decide +kernel, by decide +kernel, by decide +kernel⟩, by decide, by decide⟩, tb_i 2067 (by decide +kernel) (by decide +kernel), tb_i 116 (by decide +kernel) (by decide +kernel)⟩
theorem ck_X12_danger_557 : CKV xX12_danger 557 xX12_allTurned 0 := ⟨⟨tb_i 2069 (by decide +kernel) (by decide +kernel), tb_i 152 (by decide +kernel) (by decide +kernel), tb_i 2072 (by decide +kernel) (by decide +kernel), ⟨by decide +kernel, by decide +kernel, by decide +kernel⟩, by decide, by decide⟩, tb_i 2071 (by decide +kernel) (by decide +kernel), tb_i 117 (by decide +kernel) (by decide +kernel)⟩
def sX12_danger_b0 (a0 : Nat) (x1 : Int) (x2 : Int) (x3 : Int)   (M : MM) : Option (Int × MM) := ((some (mU M a0 0 0)).bind fun M_1 => ((sX12_hand a0 x1 M_1).bind fun q_2 => (if wI (q_2.1) = 0 then (some (((-1), q_2.2))) else ((sX12_isChild a0 x2 q_2.2).bind fun q_4 => (if wI q_4 = 0 then (some (((-1), q_2.2))) else ((sX12_of a0 6 q_2.2).bind fun q_6 => ((sX12_dangerOf a0 x2 q_6 q_2.2).bind fun q_7 => ((sX12_allTurned a0 q_2.2).bind fun q_8 => ((sX12_least (wI q_7) (wI q_8) x3).bind fun q_9 => (some ((q_9, q_2.2))))))))))))
def sX12_danger (a0 : Nat) (x1 : Int) (x2 : Int) (x3 : Int) (M : MM) : Option (Int × MM) := sX12_danger_b0 a0 x1 x2 x3 M
set_option maxHeartbeats 4000000 in
set_option maxRecDepth 100000 in
theorem bX12_danger_b0 {G : GG} (a0 : Nat) (x1 : Int) (x2 : Int) (x3 : Int) (oa0 : OB L0 a0 12)  (M : MM) {res : (Int × MM)}  (h : sX12_danger_b0 a0 x1 x2 x3 M = some res) : VV G xX12_danger (ZM G xX12_danger (some (.int (eI res.1))) L0 res.2) L0 M 0 0 0 [(0, .ref (gA G a0)), (1, .int (eI x1)), (2, .int (eI x2)), (3, .int (eI x3))] [] := by
  unfold sX12_danger_b0 at h
  refine r_aload_n (pc := 0) (i := 0) dX12_danger_0 rfl 0 rfl ?_
  refine r_iconst (pc := 1) (v := 0) dX12_danger_1 (by decide +kernel) ?_
  obtain ⟨M_1, hM_1, h⟩ := ob h
  refine r_putI (pc := 2) fg_12_97 rfl oa0 hM_1 rfl rfl dX12_danger_2 ?_
  refine r_aload_n (pc := 5) (i := 0) dX12_danger_5 rfl 0 rfl ?_
  refine r_iload_n (pc := 6) (i := 1) dX12_danger_6 rfl 1 rfl ?_
  obtain ⟨q_2, hq_2, h⟩ := ob h
  refine r_cV (pc := 7) (Y := xX12_hand) (As := [.int (eI x1)]) (rest := []) (v := (some (.int (eI (q_2.1))))) (st1 := [.int (eI (q_2.1))]) ck_X12_danger_328 (kX12_hand a0 x1 M_1 oa0 hq_2) oa0 rfl rfl rfl rfl (Nat.le_of_ble_eq_true rfl) ⟨rfl, rfl⟩ rfl dX12_danger_7 ?_
  refine r_if_eq (pc := 10) (tgt := 21) dX12_danger_10 (by decide) rfl (fun c_3 => ?_) (fun c_3 => ?_)
  · replace h := (if_pos c_3).symm.trans h
    refine r_iconst (pc := 21) (v := (-1)) dX12_danger_21 (by decide +kernel) ?_
    cases h
    exact r_iret (pc := 22) rfl rfl (Nat.le_refl 0) (Nat.le_refl 0) dX12_danger_22
  · replace h := (if_neg c_3).symm.trans h
    refine r_aload_n (pc := 13) (i := 0) dX12_danger_13 rfl 0 rfl ?_
    refine r_iload_n (pc := 14) (i := 2) dX12_danger_14 rfl 2 rfl ?_
    obtain ⟨q_4, hq_4, h⟩ := ob h
    refine r_cV (pc := 15) (Y := xX12_isChild) (As := [.int (eI x2)]) (rest := []) (v := (some (.int (eI q_4)))) (st1 := [.int (eI q_4)]) ck_X12_danger_331 (kX12_isChild a0 x2 q_2.2 oa0 hq_4) oa0 rfl rfl rfl rfl (Nat.le_of_ble_eq_true rfl) ⟨rfl, rfl⟩ rfl dX12_danger_15 ?_
    refine r_if_ne (pc := 18) (tgt := 23) dX12_danger_18 (by decide) rfl (fun c_5 => ?_) (fun c_5 => ?_)
    · replace h := (if_neg c_5).symm.trans h
      refine r_aload_n (pc := 23) (i := 0) dX12_danger_23 rfl 0 rfl ?_
      refine r_iload_n (pc := 24) (i := 2) dX12_danger_24 rfl 2 rfl ?_
      refine r_aload_n (pc := 25) (i := 0) dX12_danger_25 rfl 0 rfl ?_
      refine r_bipush (pc := 26) (v := 6) dX12_danger_26 (by decide +kernel) ?_
      obtain ⟨q_6, hq_6, h⟩ := ob h
      refine r_cV (pc := 28) (Y := xX12_of) (As := [.int (eI 6)]) (rest := [.int (eI x2), .ref (gA G a0)]) (v := (some (.int (eI q_6)))) (st1 := [.int (eI q_6), .int (eI x2), .ref (gA G a0)]) ck_X12_danger_313 (kX12_of a0 6 q_2.2 oa0 hq_6) oa0 rfl rfl rfl rfl (Nat.le_of_ble_eq_true rfl) ⟨rfl, rfl⟩ rfl dX12_danger_28 ?_
      obtain ⟨q_7, hq_7, h⟩ := ob h
      refine r_cV (pc := 31) (Y := xX12_dangerOf) (As := [.int (eI x2), .int (eI q_6)]) (rest := []) (v := (some (.int (eI q_7)))) (st1 := [.int (eI q_7)]) ck_X12_danger_554 (kX12_dangerOf a0 x2 q_6 q_2.2 oa0 hq_7) oa0 rfl rfl rfl rfl (Nat.le_of_ble_eq_true rfl) ⟨rfl, rfl⟩ rfl dX12_danger_31 ?_
      refine r_i2l (pc := 34) rfl dX12_danger_34 ?_
      refine r_aload_n (pc := 35) (i := 0) dX12_danger_35 rfl 0 rfl ?_
      obtain ⟨q_8, hq_8, h⟩ := ob h
      refine r_cV (pc := 36) (Y := xX12_allTurned) (As := []) (rest := [.long (eJ (wI q_7))]) (v := (some (.int (eI q_8)))) (st1 := [.int (eI q_8), .long (eJ (wI q_7))]) ck_X12_danger_557 (kX12_allTurned a0 q_2.2 oa0 hq_8) oa0 rfl rfl rfl rfl (Nat.le_of_ble_eq_true rfl) ⟨rfl, rfl⟩ rfl dX12_danger_36 ?_
      refine r_i2l (pc := 39) rfl dX12_danger_39 ?_
      refine r_iload_n (pc := 40) (i := 3) dX12_danger_40 rfl 3 rfl ?_
      obtain ⟨q_9, hq_9, h⟩ := ob h
      refine r_cS (pc := 41) (Y := xX12_least) (As := [.long (eJ (wI q_7)), .long (eJ (wI q_8)), .int (eI x3)]) (rest := []) (v := (some (.long (eJ q_9)))) (st1 := [.long (eJ q_9)]) ck_X12_danger_455 (kX12_least (wI q_7) (wI q_8) x3 q_2.2  hq_9) rfl rfl (Nat.le_of_ble_eq_true rfl) ⟨rfl, rfl⟩ rfl dX12_danger_41 ?_
      refine r_l2i (pc := 44) dX12_danger_44 ?_
      cases h
      exact r_iret (pc := 45) rfl rfl (Nat.le_refl 0) (Nat.le_refl 0) dX12_danger_45
    · replace h := (if_pos c_5).symm.trans h
      refine r_iconst (pc := 21) (v := (-1)) dX12_danger_21 (by decide +kernel) ?_
      cases h
      exact r_iret (pc := 22) rfl rfl (Nat.le_refl 0) (Nat.le_refl 0) dX12_danger_22
theorem kX12_danger {G : GG} (a0 : Nat) (x1 : Int) (x2 : Int) (x3 : Int) (M : MM) {res : (Int × MM)} (oa0 : OB L0 a0 12) (h : sX12_danger a0 x1 x2 x3 M = some res) : CO G xX12_danger [.ref (gA G a0), .int (eI x1), .int (eI x2), .int (eI x3)] L0 M (some (.int (eI res.1))) L0 res.2 := CO_of (by decide +kernel) (Nat.le_of_ble_eq_true rfl) (bX12_danger_b0 a0 x1 x2 x3 oa0 M h)
abbrev xX12_isSafe : XX := (yX12_isSafe, cX12_isSafe, 4, (some .boolean), 4, 85, 0, 0)
theorem ck_X12_isSafe_554 : CKV xX12_isSafe 554 xX12_dangerOf 2 := ⟨⟨tb_i 2065 (by decide +kernel) (by decide +kernel), tb_i 152 (by decide +kernel) (by decide +kernel), tb_i 2068 (by decide +kernel) (by decide +kernel), ⟨by decide +kernel, by decide +kernel, by decide +kernel⟩, by decide, by decide⟩, tb_i 2067 (by decide +kernel) (by decide +kernel), tb_i 116 (by decide +kernel) (by decide +kernel)⟩
theorem ck_X12_isSafe_557 : CKV xX12_isSafe 557 xX12_allTurned 0 := ⟨⟨tb_i 2069 (by decide +kernel) (by decide +kernel), tb_i 152 (by decide +kernel) (by decide +kernel), tb_i 2072 (by decide +kernel) (by decide +kernel), ⟨by decide +kernel, by decide +kernel, by decide +kernel⟩, by decide, by decide⟩, tb_i 2071 (by decide +kernel) (by decide +kernel), tb_i 117 (by decide +kernel) (by decide +kernel)⟩
def sX12_isSafe_b2 (a0 : Nat) (x1 : Int) (x2 : Int) (M : MM)  : Nat → Int → Option Int
  | 0, _ => none
  | n + 1, x3 => (if wI (M a0 26) ≤ wI x3 then (some (1)) else ((sX12_dangerOf a0 x3 x1 M).bind fun q_2 => ((sX12_allTurned a0 M).bind fun q_3 => (if wI (100 * q_2) ≤ wI (x2 * q_3) then ((some (x3 + 1)).bind fun v_5 => (sX12_isSafe_b2 a0 x1 x2 M n v_5)) else (some (0))))))
def sX12_isSafe_b0 (a0 : Nat) (x1 : Int) (x2 : Int) (M : MM)   : Option Int := (sX12_isSafe_b2 a0 x1 x2 M FU 0)
def sX12_isSafe (a0 : Nat) (x1 : Int) (x2 : Int) (M : MM) : Option Int := sX12_isSafe_b0 a0 x1 x2 M
set_option maxHeartbeats 4000000 in
set_option maxRecDepth 100000 in
theorem bX12_isSafe_b2 {G : GG} (a0 : Nat) (x1 : Int) (x2 : Int) (M : MM) (oa0 : OB L0 a0 12) {res : Int} : ∀ (n : Nat) (x3 : Int)  (h : sX12_isSafe_b2 a0 x1 x2 M n x3 = some res), VV G xX12_isSafe (ZM G xX12_isSafe (some (.int (eI res))) L0 M) L0 M 0 0 2 [(0, .ref (gA G a0)), (1, .int (eI x1)), (2, .int (eI x2)), (3, .int (eI x3))] [] := by
  intro n
  induction n with
  | zero =>
    intro x3 h
    rw [sX12_isSafe_b2] at h
    cases h
  | succ n ih =>
    intro x3 h
    rw [sX12_isSafe_b2] at h
    refine r_iload_n (pc := 2) (i := 3) dX12_isSafe_2 rfl 3 rfl ?_
    refine r_aload_n (pc := 3) (i := 0) dX12_isSafe_3 rfl 0 rfl ?_
    refine r_getI (pc := 4) fg_12_319 rfl oa0 dX12_isSafe_4 ?_
    refine r_icmp_ge (pc := 7) (tgt := 36) dX12_isSafe_7 (by decide) rfl rfl (fun c_1 => ?_) (fun c_1 => ?_)
    · replace h := (if_pos c_1).symm.trans h
      refine r_iconst (pc := 36) (v := 1) dX12_isSafe_36 (by decide +kernel) ?_
      cases h
      exact r_iret (pc := 37) rfl (zn_ok (Or.inr rfl)).1 (Nat.le_refl 0) (Nat.le_refl 0) dX12_isSafe_37
    · replace h := (if_neg c_1).symm.trans h
      refine r_bipush (pc := 10) (v := 100) dX12_isSafe_10 (by decide +kernel) ?_
      refine r_aload_n (pc := 12) (i := 0) dX12_isSafe_12 rfl 0 rfl ?_
      refine r_iload_n (pc := 13) (i := 3) dX12_isSafe_13 rfl 3 rfl ?_
      refine r_iload_n (pc := 14) (i := 1) dX12_isSafe_14 rfl 1 rfl ?_
      obtain ⟨q_2, hq_2, h⟩ := ob h
      refine r_cV (pc := 15) (Y := xX12_dangerOf) (As := [.int (eI x3), .int (eI x1)]) (rest := [.int (eI 100)]) (v := (some (.int (eI q_2)))) (st1 := [.int (eI q_2), .int (eI 100)]) ck_X12_isSafe_554 (kX12_dangerOf a0 x3 x1 M oa0 hq_2) oa0 rfl rfl rfl rfl (Nat.le_of_ble_eq_true rfl) ⟨rfl, rfl⟩ rfl dX12_isSafe_15 ?_
      refine r_imul (pc := 18) dX12_isSafe_18 ?_
      refine r_iload_n (pc := 19) (i := 2) dX12_isSafe_19 rfl 2 rfl ?_
      refine r_aload_n (pc := 20) (i := 0) dX12_isSafe_20 rfl 0 rfl ?_
      obtain ⟨q_3, hq_3, h⟩ := ob h
      refine r_cV (pc := 21) (Y := xX12_allTurned) (As := []) (rest := [.int (eI x2), .int (eI (100 * q_2))]) (v := (some (.int (eI q_3)))) (st1 := [.int (eI q_3), .int (eI x2), .int (eI (100 * q_2))]) ck_X12_isSafe_557 (kX12_allTurned a0 M oa0 hq_3) oa0 rfl rfl rfl rfl (Nat.le_of_ble_eq_true rfl) ⟨rfl, rfl⟩ rfl dX12_isSafe_21 ?_
      refine r_imul (pc := 24) dX12_isSafe_24 ?_
      refine r_icmp_le (pc := 25) (tgt := 30) dX12_isSafe_25 (by decide) rfl rfl (fun c_4 => ?_) (fun c_4 => ?_)
      · replace h := (if_pos c_4).symm.trans h
        obtain ⟨v_5, hv_5, h⟩ := ob h
        refine r_iinc (pc := 30) (y := v_5) (lv' := [(3, .int (eI v_5)), (0, .ref (gA G a0)), (1, .int (eI x1)), (2, .int (eI x2))]) dX12_isSafe_30 3 rfl (Option.some.inj hv_5) (Nat.le_of_ble_eq_true rfl) rfl ?_
        refine r_goto (pc := 33) (tgt := 2) dX12_isSafe_33 (by decide) ?_
        refine r_sub (lv' := [(0, .ref (gA G a0)), (1, .int (eI x1)), (2, .int (eI x2)), (3, .int (eI v_5))]) [1, 2, 3, 0] rfl ?_
        exact ih _ h
      · replace h := (if_neg c_4).symm.trans h
        refine r_iconst (pc := 28) (v := 0) dX12_isSafe_28 (by decide +kernel) ?_
        cases h
        exact r_iret (pc := 29) rfl (zn_ok (Or.inl rfl)).1 (Nat.le_refl 0) (Nat.le_refl 0) dX12_isSafe_29
set_option maxHeartbeats 4000000 in
set_option maxRecDepth 100000 in
theorem bX12_isSafe_b0 {G : GG} (a0 : Nat) (x1 : Int) (x2 : Int) (M : MM) (oa0 : OB L0 a0 12)  {res : Int}  (h : sX12_isSafe_b0 a0 x1 x2 M = some res) : VV G xX12_isSafe (ZM G xX12_isSafe (some (.int (eI res))) L0 M) L0 M 0 0 0 [(0, .ref (gA G a0)), (1, .int (eI x1)), (2, .int (eI x2))] [] := by
  unfold sX12_isSafe_b0 at h
  refine r_iconst (pc := 0) (v := 0) dX12_isSafe_0 (by decide +kernel) ?_
  refine r_istore_n (pc := 1) (i := 3) (lv' := [(3, .int (eI 0)), (0, .ref (gA G a0)), (1, .int (eI x1)), (2, .int (eI x2))]) dX12_isSafe_1 rfl (Nat.le_of_ble_eq_true rfl) rfl ?_
  refine r_sub (lv' := [(0, .ref (gA G a0)), (1, .int (eI x1)), (2, .int (eI x2)), (3, .int (eI 0))]) [1, 2, 3, 0] rfl ?_
  exact bX12_isSafe_b2 a0 x1 x2 M oa0 _ _ h
theorem kX12_isSafe {G : GG} (a0 : Nat) (x1 : Int) (x2 : Int) (M : MM) {res : Int} (oa0 : OB L0 a0 12) (h : sX12_isSafe a0 x1 x2 M = some res) : CO G xX12_isSafe [.ref (gA G a0), .int (eI x1), .int (eI x2)] L0 M (some (.int (eI res))) L0 M := CO_of (by decide +kernel) (Nat.le_of_ble_eq_true rfl) (bX12_isSafe_b0 a0 x1 x2 M oa0 h)
abbrev xX12_safe : XX := (yX12_safe, cX12_safe, 4, (some .int), 5, 108, 0, 0)
theorem ck_X12_safe_105 : CKS xX12_safe 105 xX12_in 3 := ⟨⟨tb_i 1622 (by decide +kernel) (by decide +kernel), tb_i 152 (by decide +kernel) (by decide +kernel), tb_i 1624 (by decide +kernel) (by decide +kernel), ⟨by decide +kernel, by decide +kernel, by decide +kernel⟩, by decide, by decide⟩, tb_i 1623 (by decide +kernel) (by decide +kernel)⟩
theorem ck_X12_safe_328 : CKV xX12_safe 328 xX12_hand 1 := ⟨⟨tb_i 1780 (by decide +kernel) (by decide +kernel), tb_i 152 (by decide +kernel) (by decide +kernel), tb_i 1783 (by decide +kernel) (by decide +kernel), ⟨by decide +kernel, by decide +kernel, by decide +kernel⟩, by decide, by decide⟩, tb_i 1782 (by decide +kernel) (by decide +kernel), tb_i 72 (by decide +kernel) (by decide +kernel)⟩
theorem ck_X12_safe_560 : CKV xX12_safe 560 xX12_isSafe 2 := ⟨⟨tb_i 2077 (by decide +kernel) (by decide +kernel), tb_i 152 (by decide +kernel) (by decide +kernel), tb_i 2080 (by decide +kernel) (by decide +kernel), ⟨by decide +kernel, by decide +kernel, by decide +kernel⟩, by decide, by decide⟩, tb_i 2079 (by decide +kernel) (by decide +kernel), tb_i 118 (by decide +kernel) (by decide +kernel)⟩
def sX12_safe_b27 (a0 : Nat) (x1 : Int) (x2 : Int)  : Nat → Int → MM → Option (Int × MM)
  | 0, _, _ => none
  | n + 1, x3, M => ((sX12_isSafe a0 x3 x2 M).bind fun q_1 => (if wI q_1 = 0 then ((some (x3 + (-1))).bind fun v_3 => (sX12_safe_b27 a0 x1 x2 n v_3 M)) else (some ((x3, M)))))
def sX12_safe_b0 (a0 : Nat) (x1 : Int) (x2 : Int)   (M : MM) : Option (Int × MM) := ((some (mU M a0 0 0)).bind fun M_1 => (if wI (sX12_in x2 0 100) = 0 then (some (((-1), M_1))) else ((sX12_hand a0 x1 M_1).bind fun q_3 => (if wI (q_3.1) = 0 then (some (((-1), q_3.2))) else (sX12_safe_b27 a0 x1 x2 FU 3 q_3.2)))))
def sX12_safe (a0 : Nat) (x1 : Int) (x2 : Int) (M : MM) : Option (Int × MM) := sX12_safe_b0 a0 x1 x2 M
set_option maxHeartbeats 4000000 in
set_option maxRecDepth 100000 in
theorem bX12_safe_b27 {G : GG} (a0 : Nat) (x1 : Int) (x2 : Int) (oa0 : OB L0 a0 12) {res : (Int × MM)} : ∀ (n : Nat) (x3 : Int) (M : MM)  (h : sX12_safe_b27 a0 x1 x2 n x3 M = some res), VV G xX12_safe (ZM G xX12_safe (some (.int (eI res.1))) L0 res.2) L0 M 0 0 27 [(0, .ref (gA G a0)), (2, .int (eI x2)), (3, .int (eI x3))] [] := by
  intro n
  induction n with
  | zero =>
    intro x3 M h
    rw [sX12_safe_b27] at h
    cases h
  | succ n ih =>
    intro x3 M h
    rw [sX12_safe_b27] at h
    refine r_aload_n (pc := 27) (i := 0) dX12_safe_27 rfl 0 rfl ?_
    refine r_iload_n (pc := 28) (i := 3) dX12_safe_28 rfl 2 rfl ?_
    refine r_iload_n (pc := 29) (i := 2) dX12_safe_29 rfl 1 rfl ?_
    obtain ⟨q_1, hq_1, h⟩ := ob h
    refine r_cV (pc := 30) (Y := xX12_isSafe) (As := [.int (eI x3), .int (eI x2)]) (rest := []) (v := (some (.int (eI q_1)))) (st1 := [.int (eI q_1)]) ck_X12_safe_560 (kX12_isSafe a0 x3 x2 M oa0 hq_1) oa0 rfl rfl rfl rfl (Nat.le_of_ble_eq_true rfl) ⟨rfl, rfl⟩ rfl dX12_safe_30 ?_
    refine r_if_ne (pc := 33) (tgt := 42) dX12_safe_33 (by decide) rfl (fun c_2 => ?_) (fun c_2 => ?_)
    · replace h := (if_neg c_2).symm.trans h
      refine r_iload_n (pc := 42) (i := 3) dX12_safe_42 rfl 2 rfl ?_
      cases h
      exact r_iret (pc := 43) rfl rfl (Nat.le_refl 0) (Nat.le_refl 0) dX12_safe_43
    · replace h := (if_pos c_2).symm.trans h
      obtain ⟨v_3, hv_3, h⟩ := ob h
      refine r_iinc (pc := 36) (y := v_3) (lv' := [(3, .int (eI v_3)), (0, .ref (gA G a0)), (2, .int (eI x2))]) dX12_safe_36 2 rfl (Option.some.inj hv_3) (Nat.le_of_ble_eq_true rfl) rfl ?_
      refine r_goto (pc := 39) (tgt := 27) dX12_safe_39 (by decide) ?_
      refine r_sub (lv' := [(0, .ref (gA G a0)), (2, .int (eI x2)), (3, .int (eI v_3))]) [1, 2, 0] rfl ?_
      exact ih _ _ h
set_option maxHeartbeats 4000000 in
set_option maxRecDepth 100000 in
theorem bX12_safe_b0 {G : GG} (a0 : Nat) (x1 : Int) (x2 : Int) (oa0 : OB L0 a0 12)  (M : MM) {res : (Int × MM)}  (h : sX12_safe_b0 a0 x1 x2 M = some res) : VV G xX12_safe (ZM G xX12_safe (some (.int (eI res.1))) L0 res.2) L0 M 0 0 0 [(0, .ref (gA G a0)), (1, .int (eI x1)), (2, .int (eI x2))] [] := by
  unfold sX12_safe_b0 at h
  refine r_aload_n (pc := 0) (i := 0) dX12_safe_0 rfl 0 rfl ?_
  refine r_iconst (pc := 1) (v := 0) dX12_safe_1 (by decide +kernel) ?_
  obtain ⟨M_1, hM_1, h⟩ := ob h
  refine r_putI (pc := 2) fg_12_97 rfl oa0 hM_1 rfl rfl dX12_safe_2 ?_
  refine r_iload_n (pc := 5) (i := 2) dX12_safe_5 rfl 2 rfl ?_
  refine r_iconst (pc := 6) (v := 0) dX12_safe_6 (by decide +kernel) ?_
  refine r_bipush (pc := 7) (v := 100) dX12_safe_7 (by decide +kernel) ?_
  refine r_cS (pc := 9) (Y := xX12_in) (As := [.int (eI x2), .int (eI 0), .int (eI 100)]) (rest := []) (v := (some (.int (eI (sX12_in x2 0 100))))) (st1 := [.int (eI (sX12_in x2 0 100))]) ck_X12_safe_105 (kX12_in x2 0 100 M_1 ) rfl rfl (Nat.le_of_ble_eq_true rfl) ⟨rfl, rfl⟩ rfl dX12_safe_9 ?_
  refine r_if_eq (pc := 12) (tgt := 23) dX12_safe_12 (by decide) rfl (fun c_2 => ?_) (fun c_2 => ?_)
  · replace h := (if_pos c_2).symm.trans h
    refine r_iconst (pc := 23) (v := (-1)) dX12_safe_23 (by decide +kernel) ?_
    cases h
    exact r_iret (pc := 24) rfl rfl (Nat.le_refl 0) (Nat.le_refl 0) dX12_safe_24
  · replace h := (if_neg c_2).symm.trans h
    refine r_aload_n (pc := 15) (i := 0) dX12_safe_15 rfl 0 rfl ?_
    refine r_iload_n (pc := 16) (i := 1) dX12_safe_16 rfl 1 rfl ?_
    obtain ⟨q_3, hq_3, h⟩ := ob h
    refine r_cV (pc := 17) (Y := xX12_hand) (As := [.int (eI x1)]) (rest := []) (v := (some (.int (eI (q_3.1))))) (st1 := [.int (eI (q_3.1))]) ck_X12_safe_328 (kX12_hand a0 x1 M_1 oa0 hq_3) oa0 rfl rfl rfl rfl (Nat.le_of_ble_eq_true rfl) ⟨rfl, rfl⟩ rfl dX12_safe_17 ?_
    refine r_if_ne (pc := 20) (tgt := 25) dX12_safe_20 (by decide) rfl (fun c_4 => ?_) (fun c_4 => ?_)
    · replace h := (if_neg c_4).symm.trans h
      refine r_iconst (pc := 25) (v := 3) dX12_safe_25 (by decide +kernel) ?_
      refine r_istore_n (pc := 26) (i := 3) (lv' := [(3, .int (eI 3)), (0, .ref (gA G a0)), (1, .int (eI x1)), (2, .int (eI x2))]) dX12_safe_26 rfl (Nat.le_of_ble_eq_true rfl) rfl ?_
      refine r_sub (lv' := [(0, .ref (gA G a0)), (2, .int (eI x2)), (3, .int (eI 3))]) [1, 3, 0] rfl ?_
      exact bX12_safe_b27 a0 x1 x2 oa0 _ _ _ h
    · replace h := (if_pos c_4).symm.trans h
      refine r_iconst (pc := 23) (v := (-1)) dX12_safe_23 (by decide +kernel) ?_
      cases h
      exact r_iret (pc := 24) rfl rfl (Nat.le_refl 0) (Nat.le_refl 0) dX12_safe_24
theorem kX12_safe {G : GG} (a0 : Nat) (x1 : Int) (x2 : Int) (M : MM) {res : (Int × MM)} (oa0 : OB L0 a0 12) (h : sX12_safe a0 x1 x2 M = some res) : CO G xX12_safe [.ref (gA G a0), .int (eI x1), .int (eI x2)] L0 M (some (.int (eI res.1))) L0 res.2 := CO_of (by decide +kernel) (Nat.le_of_ble_eq_true rfl) (bX12_safe_b0 a0 x1 x2 oa0 M h)
abbrev xX12_hasGround : XX := (yX12_hasGround, cX12_hasGround, 2, (some .boolean), 2, 44, 0, 0)
theorem ck_X12_hasGround_301 : CKV xX12_hasGround 301 xX12_is 2 := ⟨⟨tb_i 1629 (by decide +kernel) (by decide +kernel), tb_i 152 (by decide +kernel) (by decide +kernel), tb_i 1632 (by decide +kernel) (by decide +kernel), ⟨by decide +kernel, by decide +kernel, by decide +kernel⟩, by decide, by decide⟩, tb_i 1631 (by decide +kernel) (by decide +kernel), tb_i 47 (by decide +kernel) (by decide +kernel)⟩
def sX12_hasGround_b0 (a0 : Nat) (x1 : Int)   (M : MM) : Option (Int × MM) := ((some (mU M a0 60 x1)).bind fun M_1 => ((sX12_is a0 3 x1 M_1).bind fun q_2 => (if q_2 = 0 ∨ q_2 = 1 then (some ((q_2, M_1))) else none)))
def sX12_hasGround (a0 : Nat) (x1 : Int) (M : MM) : Option (Int × MM) := sX12_hasGround_b0 a0 x1 M
set_option maxHeartbeats 4000000 in
set_option maxRecDepth 100000 in
theorem bX12_hasGround_b0 {G : GG} (a0 : Nat) (x1 : Int) (oa0 : OB L0 a0 12)  (M : MM) {res : (Int × MM)}  (h : sX12_hasGround_b0 a0 x1 M = some res) : VV G xX12_hasGround (ZM G xX12_hasGround (some (.int (eI res.1))) L0 res.2) L0 M 0 0 0 [(0, .ref (gA G a0)), (1, .int (eI x1))] [] := by
  unfold sX12_hasGround_b0 at h
  refine r_aload_n (pc := 0) (i := 0) dX12_hasGround_0 rfl 0 rfl ?_
  refine r_iload_n (pc := 1) (i := 1) dX12_hasGround_1 rfl 1 rfl ?_
  obtain ⟨M_1, hM_1, h⟩ := ob h
  refine r_putI (pc := 2) fg_12_563 rfl oa0 hM_1 rfl rfl dX12_hasGround_2 ?_
  refine r_aload_n (pc := 5) (i := 0) dX12_hasGround_5 rfl 0 rfl ?_
  refine r_iconst (pc := 6) (v := 3) dX12_hasGround_6 (by decide +kernel) ?_
  refine r_iload_n (pc := 7) (i := 1) dX12_hasGround_7 rfl 1 rfl ?_
  obtain ⟨q_2, hq_2, h⟩ := ob h
  refine r_cV (pc := 8) (Y := xX12_is) (As := [.int (eI 3), .int (eI x1)]) (rest := []) (v := (some (.int (eI q_2)))) (st1 := [.int (eI q_2)]) ck_X12_hasGround_301 (kX12_is a0 3 x1 M_1 oa0 hq_2) oa0 rfl rfl rfl rfl (Nat.le_of_ble_eq_true rfl) ⟨rfl, rfl⟩ rfl dX12_hasGround_8 ?_
  obtain ⟨c_3, h⟩ := og h
  cases h
  exact r_iret (pc := 11) rfl (zn_ok c_3).1 (Nat.le_refl 0) (Nat.le_refl 0) dX12_hasGround_11
theorem kX12_hasGround {G : GG} (a0 : Nat) (x1 : Int) (M : MM) {res : (Int × MM)} (oa0 : OB L0 a0 12) (h : sX12_hasGround a0 x1 M = some res) : CO G xX12_hasGround [.ref (gA G a0), .int (eI x1)] L0 M (some (.int (eI res.1))) L0 res.2 := CO_of (by decide +kernel) (Nat.le_of_ble_eq_true rfl) (bX12_hasGround_b0 a0 x1 oa0 M h)
abbrev xX12_falls : XX := (yX12_falls, cX12_falls, 1, (some .int), 0, 0, 0, 0)
def sX12_falls_b0 (a0 : Nat) (M : MM)   : Option Int := (if 0 ≤ wI (51 * (M a0 60)) ∧ wI (51 * (M a0 60)) < 408 then (some ((M (gR a0 9) (wI (51 * (M a0 60))).toNat))) else none)
def sX12_falls (a0 : Nat) (M : MM) : Option Int := sX12_falls_b0 a0 M
set_option maxHeartbeats 4000000 in
set_option maxRecDepth 100000 in
theorem bX12_falls_b0 {G : GG} (a0 : Nat) (M : MM) (oa0 : OB L0 a0 12)  {res : Int}  (h : sX12_falls_b0 a0 M = some res) : VV G xX12_falls (ZM G xX12_falls (some (.int (eI res))) L0 M) L0 M 0 0 0 [(0, .ref (gA G a0))] [] := by
  unfold sX12_falls_b0 at h
  refine r_aload_n (pc := 0) (i := 0) dX12_falls_0 rfl 0 rfl ?_
  have o_1 := (wt_12_9 oa0).2
  refine r_getR (pc := 1) fg_12_35 rfl oa0 (wt_12_9 oa0).1 dX12_falls_1 ?_
  refine r_bipush (pc := 4) (v := 51) dX12_falls_4 (by decide +kernel) ?_
  refine r_aload_n (pc := 6) (i := 0) dX12_falls_6 rfl 0 rfl ?_
  refine r_getI (pc := 7) fg_12_563 rfl oa0 dX12_falls_7 ?_
  refine r_imul (pc := 10) dX12_falls_10 ?_
  obtain ⟨c_2, h⟩ := og h
  refine r_iald (pc := 11) o_1 rfl c_2 rfl dX12_falls_11 ?_
  cases h
  exact r_iret (pc := 12) rfl rfl (Nat.le_refl 0) (Nat.le_refl 0) dX12_falls_12
theorem kX12_falls {G : GG} (a0 : Nat) (M : MM) {res : Int} (oa0 : OB L0 a0 12) (h : sX12_falls a0 M = some res) : CO G xX12_falls [.ref (gA G a0)] L0 M (some (.int (eI res))) L0 M := CO_of (by decide +kernel) (Nat.le_of_ble_eq_true rfl) (bX12_falls_b0 a0 M oa0 h)
abbrev xX12_fallOf : XX := (yX12_fallOf, cX12_fallOf, 3, (some .int), 0, 0, 0, 0)
def sX12_fallOf_b0 (a0 : Nat) (x1 : Int) (x2 : Int) (M : MM)   : Option Int := (if 0 ≤ wI ((((51 * (M a0 60)) + 1) + (2 * x1)) + x2) ∧ wI ((((51 * (M a0 60)) + 1) + (2 * x1)) + x2) < 408 then (some ((M (gR a0 9) (wI ((((51 * (M a0 60)) + 1) + (2 * x1)) + x2)).toNat))) else none)
def sX12_fallOf (a0 : Nat) (x1 : Int) (x2 : Int) (M : MM) : Option Int := sX12_fallOf_b0 a0 x1 x2 M
set_option maxHeartbeats 4000000 in
set_option maxRecDepth 100000 in
theorem bX12_fallOf_b0 {G : GG} (a0 : Nat) (x1 : Int) (x2 : Int) (M : MM) (oa0 : OB L0 a0 12)  {res : Int}  (h : sX12_fallOf_b0 a0 x1 x2 M = some res) : VV G xX12_fallOf (ZM G xX12_fallOf (some (.int (eI res))) L0 M) L0 M 0 0 0 [(0, .ref (gA G a0)), (1, .int (eI x1)), (2, .int (eI x2))] [] := by
  unfold sX12_fallOf_b0 at h
  refine r_aload_n (pc := 0) (i := 0) dX12_fallOf_0 rfl 0 rfl ?_
  have o_1 := (wt_12_9 oa0).2
  refine r_getR (pc := 1) fg_12_35 rfl oa0 (wt_12_9 oa0).1 dX12_fallOf_1 ?_
  refine r_bipush (pc := 4) (v := 51) dX12_fallOf_4 (by decide +kernel) ?_
  refine r_aload_n (pc := 6) (i := 0) dX12_fallOf_6 rfl 0 rfl ?_
  refine r_getI (pc := 7) fg_12_563 rfl oa0 dX12_fallOf_7 ?_
  refine r_imul (pc := 10) dX12_fallOf_10 ?_
  refine r_iconst (pc := 11) (v := 1) dX12_fallOf_11 (by decide +kernel) ?_
  refine r_iadd (pc := 12) dX12_fallOf_12 ?_
  refine r_iconst (pc := 13) (v := 2) dX12_fallOf_13 (by decide +kernel) ?_
  refine r_iload_n (pc := 14) (i := 1) dX12_fallOf_14 rfl 1 rfl ?_
  refine r_imul (pc := 15) dX12_fallOf_15 ?_
  refine r_iadd (pc := 16) dX12_fallOf_16 ?_
  refine r_iload_n (pc := 17) (i := 2) dX12_fallOf_17 rfl 2 rfl ?_
  refine r_iadd (pc := 18) dX12_fallOf_18 ?_
  obtain ⟨c_2, h⟩ := og h
  refine r_iald (pc := 19) o_1 rfl c_2 rfl dX12_fallOf_19 ?_
  cases h
  exact r_iret (pc := 20) rfl rfl (Nat.le_refl 0) (Nat.le_refl 0) dX12_fallOf_20
theorem kX12_fallOf {G : GG} (a0 : Nat) (x1 : Int) (x2 : Int) (M : MM) {res : Int} (oa0 : OB L0 a0 12) (h : sX12_fallOf a0 x1 x2 M = some res) : CO G xX12_fallOf [.ref (gA G a0), .int (eI x1), .int (eI x2)] L0 M (some (.int (eI res))) L0 M := CO_of (by decide +kernel) (Nat.le_of_ble_eq_true rfl) (bX12_fallOf_b0 a0 x1 x2 M oa0 h)
abbrev xX12_allFell : XX := (yX12_allFell, cX12_allFell, 3, (some .int), 1, 22, 0, 0)
theorem ck_X12_allFell_566 : CKV xX12_allFell 566 xX12_falls 0 := ⟨⟨tb_i 2089 (by decide +kernel) (by decide +kernel), tb_i 152 (by decide +kernel) (by decide +kernel), tb_i 2092 (by decide +kernel) (by decide +kernel), ⟨by decide +kernel, by decide +kernel, by decide +kernel⟩, by decide, by decide⟩, tb_i 2091 (by decide +kernel) (by decide +kernel), tb_i 120 (by decide +kernel) (by decide +kernel)⟩
theorem ck_X12_allFell_569 : CKV xX12_allFell 569 xX12_fallOf 2 := ⟨⟨tb_i 2097 (by decide +kernel) (by decide +kernel), tb_i 152 (by decide +kernel) (by decide +kernel), tb_i 2100 (by decide +kernel) (by decide +kernel), ⟨by decide +kernel, by decide +kernel, by decide +kernel⟩, by decide, by decide⟩, tb_i 2099 (by decide +kernel) (by decide +kernel), tb_i 122 (by decide +kernel) (by decide +kernel)⟩
def sX12_allFell_b4 (a0 : Nat) (M : MM)  : Nat → Int → Int → Option Int
  | 0, _, _ => none
  | n + 1, x1, x2 => ((sX12_falls a0 M).bind fun q_1 => (if wI q_1 ≤ wI x2 then (some (x1)) else ((sX12_fallOf a0 x2 1 M).bind fun q_3 => ((some (x2 + 1)).bind fun v_4 => (sX12_allFell_b4 a0 M n (x1 + q_3) v_4)))))
def sX12_allFell_b0 (a0 : Nat) (M : MM)   : Option Int := (sX12_allFell_b4 a0 M FU 0 0)
def sX12_allFell (a0 : Nat) (M : MM) : Option Int := sX12_allFell_b0 a0 M
set_option maxHeartbeats 4000000 in
set_option maxRecDepth 100000 in
theorem bX12_allFell_b4 {G : GG} (a0 : Nat) (M : MM) (oa0 : OB L0 a0 12) {res : Int} : ∀ (n : Nat) (x1 : Int) (x2 : Int)  (h : sX12_allFell_b4 a0 M n x1 x2 = some res), VV G xX12_allFell (ZM G xX12_allFell (some (.int (eI res))) L0 M) L0 M 0 0 4 [(0, .ref (gA G a0)), (1, .int (eI x1)), (2, .int (eI x2))] [] := by
  intro n
  induction n with
  | zero =>
    intro x1 x2 h
    rw [sX12_allFell_b4] at h
    cases h
  | succ n ih =>
    intro x1 x2 h
    rw [sX12_allFell_b4] at h
    refine r_iload_n (pc := 4) (i := 2) dX12_allFell_4 rfl 2 rfl ?_
    refine r_aload_n (pc := 5) (i := 0) dX12_allFell_5 rfl 0 rfl ?_
    obtain ⟨q_1, hq_1, h⟩ := ob h
    refine r_cV (pc := 6) (Y := xX12_falls) (As := []) (rest := [.int (eI x2)]) (v := (some (.int (eI q_1)))) (st1 := [.int (eI q_1), .int (eI x2)]) ck_X12_allFell_566 (kX12_falls a0 M oa0 hq_1) oa0 rfl rfl rfl rfl (Nat.le_of_ble_eq_true rfl) ⟨rfl, rfl⟩ rfl dX12_allFell_6 ?_
    refine r_icmp_ge (pc := 9) (tgt := 27) dX12_allFell_9 (by decide) rfl rfl (fun c_2 => ?_) (fun c_2 => ?_)
    · replace h := (if_pos c_2).symm.trans h
      refine r_iload_n (pc := 27) (i := 1) dX12_allFell_27 rfl 1 rfl ?_
      cases h
      exact r_iret (pc := 28) rfl rfl (Nat.le_refl 0) (Nat.le_refl 0) dX12_allFell_28
    · replace h := (if_neg c_2).symm.trans h
      refine r_iload_n (pc := 12) (i := 1) dX12_allFell_12 rfl 1 rfl ?_
      refine r_aload_n (pc := 13) (i := 0) dX12_allFell_13 rfl 0 rfl ?_
      refine r_iload_n (pc := 14) (i := 2) dX12_allFell_14 rfl 2 rfl ?_
      refine r_iconst (pc := 15) (v := 1) dX12_allFell_15 (by decide +kernel) ?_
      obtain ⟨q_3, hq_3, h⟩ := ob h
      refine r_cV (pc := 16) (Y := xX12_fallOf) (As := [.int (eI x2), .int (eI 1)]) (rest := [.int (eI x1)]) (v := (some (.int (eI q_3)))) (st1 := [.int (eI q_3), .int (eI x1)]) ck_X12_allFell_569 (kX12_fallOf a0 x2 1 M oa0 hq_3) oa0 rfl rfl rfl rfl (Nat.le_of_ble_eq_true rfl) ⟨rfl, rfl⟩ rfl dX12_allFell_16 ?_
      refine r_iadd (pc := 19) dX12_allFell_19 ?_
      refine r_istore_n (pc := 20) (i := 1) (lv' := [(1, .int (eI (x1 + q_3))), (0, .ref (gA G a0)), (2, .int (eI x2))]) dX12_allFell_20 rfl (Nat.le_of_ble_eq_true rfl) rfl ?_
      obtain ⟨v_4, hv_4, h⟩ := ob h
      refine r_iinc (pc := 21) (y := v_4) (lv' := [(2, .int (eI v_4)), (1, .int (eI (x1 + q_3))), (0, .ref (gA G a0))]) dX12_allFell_21 2 rfl (Option.some.inj hv_4) (Nat.le_of_ble_eq_true rfl) rfl ?_
      refine r_goto (pc := 24) (tgt := 4) dX12_allFell_24 (by decide) ?_
      refine r_sub (lv' := [(0, .ref (gA G a0)), (1, .int (eI (x1 + q_3))), (2, .int (eI v_4))]) [2, 1, 0] rfl ?_
      exact ih _ _ h
set_option maxHeartbeats 4000000 in
set_option maxRecDepth 100000 in
theorem bX12_allFell_b0 {G : GG} (a0 : Nat) (M : MM) (oa0 : OB L0 a0 12)  {res : Int}  (h : sX12_allFell_b0 a0 M = some res) : VV G xX12_allFell (ZM G xX12_allFell (some (.int (eI res))) L0 M) L0 M 0 0 0 [(0, .ref (gA G a0))] [] := by
  unfold sX12_allFell_b0 at h
  refine r_iconst (pc := 0) (v := 0) dX12_allFell_0 (by decide +kernel) ?_
  refine r_istore_n (pc := 1) (i := 1) (lv' := [(1, .int (eI 0)), (0, .ref (gA G a0))]) dX12_allFell_1 rfl (Nat.le_of_ble_eq_true rfl) rfl ?_
  refine r_iconst (pc := 2) (v := 0) dX12_allFell_2 (by decide +kernel) ?_
  refine r_istore_n (pc := 3) (i := 2) (lv' := [(2, .int (eI 0)), (1, .int (eI 0)), (0, .ref (gA G a0))]) dX12_allFell_3 rfl (Nat.le_of_ble_eq_true rfl) rfl ?_
  refine r_sub (lv' := [(0, .ref (gA G a0)), (1, .int (eI 0)), (2, .int (eI 0))]) [2, 1, 0] rfl ?_
  exact bX12_allFell_b4 a0 M oa0 _ _ _ h
theorem kX12_allFell {G : GG} (a0 : Nat) (M : MM) {res : Int} (oa0 : OB L0 a0 12) (h : sX12_allFell a0 M = some res) : CO G xX12_allFell [.ref (gA G a0)] L0 M (some (.int (eI res))) L0 M := CO_of (by decide +kernel) (Nat.le_of_ble_eq_true rfl) (bX12_allFell_b0 a0 M oa0 h)
abbrev xX12_fell : XX := (yX12_fell, cX12_fell, 4, (some .int), 3, 65, 0, 0)
theorem ck_X12_fell_105 : CKS xX12_fell 105 xX12_in 3 := ⟨⟨tb_i 1622 (by decide +kernel) (by decide +kernel), tb_i 152 (by decide +kernel) (by decide +kernel), tb_i 1624 (by decide +kernel) (by decide +kernel), ⟨by decide +kernel, by decide +kernel, by decide +kernel⟩, by decide, by decide⟩, tb_i 1623 (by decide +kernel) (by decide +kernel)⟩
theorem ck_X12_fell_566 : CKV xX12_fell 566 xX12_falls 0 := ⟨⟨tb_i 2089 (by decide +kernel) (by decide +kernel), tb_i 152 (by decide +kernel) (by decide +kernel), tb_i 2092 (by decide +kernel) (by decide +kernel), ⟨by decide +kernel, by decide +kernel, by decide +kernel⟩, by decide, by decide⟩, tb_i 2091 (by decide +kernel) (by decide +kernel), tb_i 120 (by decide +kernel) (by decide +kernel)⟩
theorem ck_X12_fell_569 : CKV xX12_fell 569 xX12_fallOf 2 := ⟨⟨tb_i 2097 (by decide +kernel) (by decide +kernel), tb_i 152 (by decide +kernel) (by decide +kernel), tb_i 2100 (by decide +kernel) (by decide +kernel), ⟨by decide +kernel, by decide +kernel, by decide +kernel⟩, by decide, by decide⟩, tb_i 2099 (by decide +kernel) (by decide +kernel), tb_i 122 (by decide +kernel) (by decide +kernel)⟩
theorem ck_X12_fell_572 : CKV xX12_fell 572 xX12_hasGround 1 := ⟨⟨tb_i 2085 (by decide +kernel) (by decide +kernel), tb_i 152 (by decide +kernel) (by decide +kernel), tb_i 2088 (by decide +kernel) (by decide +kernel), ⟨by decide +kernel, by decide +kernel, by decide +kernel⟩, by decide, by decide⟩, tb_i 2087 (by decide +kernel) (by decide +kernel), tb_i 119 (by decide +kernel) (by decide +kernel)⟩
theorem ck_X12_fell_575 : CKV xX12_fell 575 xX12_allFell 0 := ⟨⟨tb_i 2093 (by decide +kernel) (by decide +kernel), tb_i 152 (by decide +kernel) (by decide +kernel), tb_i 2096 (by decide +kernel) (by decide +kernel), ⟨by decide +kernel, by decide +kernel, by decide +kernel⟩, by decide, by decide⟩, tb_i 2095 (by decide +kernel) (by decide +kernel), tb_i 121 (by decide +kernel) (by decide +kernel)⟩
def sX12_fell_b0 (a0 : Nat) (x1 : Int) (x2 : Int) (x3 : Int)   (M : MM) : Option (Int × MM) := ((some (mU M a0 0 0)).bind fun M_1 => ((sX12_hasGround a0 x1 M_1).bind fun q_2 => (if wI (q_2.1) = 0 then (some (((-2), q_2.2))) else (if wI x2 = (-1) then (if wI x3 = 0 then ((sX12_falls a0 q_2.2).bind fun q_12 => (some ((q_12, q_2.2)))) else (if wI x3 = 1 then ((sX12_allFell a0 q_2.2).bind fun q_11 => (some ((q_11, q_2.2)))) else (some (((-2), q_2.2))))) else ((sX12_falls a0 q_2.2).bind fun q_5 => (if wI (sX12_in x2 0 (q_5 - 1)) = 0 then (some (((-2), q_2.2))) else (if wI (sX12_in x3 0 1) = 0 then (some (((-2), q_2.2))) else ((sX12_fallOf a0 x2 x3 q_2.2).bind fun q_8 => (some ((q_8, q_2.2)))))))))))
def sX12_fell (a0 : Nat) (x1 : Int) (x2 : Int) (x3 : Int) (M : MM) : Option (Int × MM) := sX12_fell_b0 a0 x1 x2 x3 M
set_option maxHeartbeats 4000000 in
set_option maxRecDepth 100000 in
theorem bX12_fell_b0 {G : GG} (a0 : Nat) (x1 : Int) (x2 : Int) (x3 : Int) (oa0 : OB L0 a0 12)  (M : MM) {res : (Int × MM)}  (h : sX12_fell_b0 a0 x1 x2 x3 M = some res) : VV G xX12_fell (ZM G xX12_fell (some (.int (eI res.1))) L0 res.2) L0 M 0 0 0 [(0, .ref (gA G a0)), (1, .int (eI x1)), (2, .int (eI x2)), (3, .int (eI x3))] [] := by
  unfold sX12_fell_b0 at h
  refine r_aload_n (pc := 0) (i := 0) dX12_fell_0 rfl 0 rfl ?_
  refine r_iconst (pc := 1) (v := 0) dX12_fell_1 (by decide +kernel) ?_
  obtain ⟨M_1, hM_1, h⟩ := ob h
  refine r_putI (pc := 2) fg_12_97 rfl oa0 hM_1 rfl rfl dX12_fell_2 ?_
  refine r_aload_n (pc := 5) (i := 0) dX12_fell_5 rfl 0 rfl ?_
  refine r_iload_n (pc := 6) (i := 1) dX12_fell_6 rfl 1 rfl ?_
  obtain ⟨q_2, hq_2, h⟩ := ob h
  refine r_cV (pc := 7) (Y := xX12_hasGround) (As := [.int (eI x1)]) (rest := []) (v := (some (.int (eI (q_2.1))))) (st1 := [.int (eI (q_2.1))]) ck_X12_fell_572 (kX12_hasGround a0 x1 M_1 oa0 hq_2) oa0 rfl rfl rfl rfl (Nat.le_of_ble_eq_true rfl) ⟨rfl, rfl⟩ rfl dX12_fell_7 ?_
  refine r_if_ne (pc := 10) (tgt := 16) dX12_fell_10 (by decide) rfl (fun c_3 => ?_) (fun c_3 => ?_)
  · replace h := (if_neg c_3).symm.trans h
    refine r_iload_n (pc := 16) (i := 2) dX12_fell_16 rfl 2 rfl ?_
    refine r_iconst (pc := 17) (v := (-1)) dX12_fell_17 (by decide +kernel) ?_
    refine r_icmp_ne (pc := 18) (tgt := 47) dX12_fell_18 (by decide) rfl wl_m1 (fun c_4 => ?_) (fun c_4 => ?_)
    · replace h := (if_neg c_4).symm.trans h
      refine r_iload_n (pc := 47) (i := 2) dX12_fell_47 rfl 2 rfl ?_
      refine r_iconst (pc := 48) (v := 0) dX12_fell_48 (by decide +kernel) ?_
      refine r_aload_n (pc := 49) (i := 0) dX12_fell_49 rfl 0 rfl ?_
      obtain ⟨q_5, hq_5, h⟩ := ob h
      refine r_cV (pc := 50) (Y := xX12_falls) (As := []) (rest := [.int (eI 0), .int (eI x2)]) (v := (some (.int (eI q_5)))) (st1 := [.int (eI q_5), .int (eI 0), .int (eI x2)]) ck_X12_fell_566 (kX12_falls a0 q_2.2 oa0 hq_5) oa0 rfl rfl rfl rfl (Nat.le_of_ble_eq_true rfl) ⟨rfl, rfl⟩ rfl dX12_fell_50 ?_
      refine r_iconst (pc := 53) (v := 1) dX12_fell_53 (by decide +kernel) ?_
      refine r_isub (pc := 54) dX12_fell_54 ?_
      refine r_cS (pc := 55) (Y := xX12_in) (As := [.int (eI x2), .int (eI 0), .int (eI (q_5 - 1))]) (rest := []) (v := (some (.int (eI (sX12_in x2 0 (q_5 - 1)))))) (st1 := [.int (eI (sX12_in x2 0 (q_5 - 1)))]) ck_X12_fell_105 (kX12_in x2 0 (q_5 - 1) q_2.2 ) rfl rfl (Nat.le_of_ble_eq_true rfl) ⟨rfl, rfl⟩ rfl dX12_fell_55 ?_
      refine r_if_eq (pc := 58) (tgt := 79) dX12_fell_58 (by decide) rfl (fun c_6 => ?_) (fun c_6 => ?_)
      · replace h := (if_pos c_6).symm.trans h
        refine r_bipush (pc := 79) (v := (-2)) dX12_fell_79 (by decide +kernel) ?_
        cases h
        exact r_iret (pc := 81) rfl rfl (Nat.le_refl 0) (Nat.le_refl 0) dX12_fell_81
      · replace h := (if_neg c_6).symm.trans h
        refine r_iload_n (pc := 61) (i := 3) dX12_fell_61 rfl 3 rfl ?_
        refine r_iconst (pc := 62) (v := 0) dX12_fell_62 (by decide +kernel) ?_
        refine r_iconst (pc := 63) (v := 1) dX12_fell_63 (by decide +kernel) ?_
        refine r_cS (pc := 64) (Y := xX12_in) (As := [.int (eI x3), .int (eI 0), .int (eI 1)]) (rest := []) (v := (some (.int (eI (sX12_in x3 0 1))))) (st1 := [.int (eI (sX12_in x3 0 1))]) ck_X12_fell_105 (kX12_in x3 0 1 q_2.2 ) rfl rfl (Nat.le_of_ble_eq_true rfl) ⟨rfl, rfl⟩ rfl dX12_fell_64 ?_
        refine r_if_eq (pc := 67) (tgt := 79) dX12_fell_67 (by decide) rfl (fun c_7 => ?_) (fun c_7 => ?_)
        · replace h := (if_pos c_7).symm.trans h
          refine r_bipush (pc := 79) (v := (-2)) dX12_fell_79 (by decide +kernel) ?_
          cases h
          exact r_iret (pc := 81) rfl rfl (Nat.le_refl 0) (Nat.le_refl 0) dX12_fell_81
        · replace h := (if_neg c_7).symm.trans h
          refine r_aload_n (pc := 70) (i := 0) dX12_fell_70 rfl 0 rfl ?_
          refine r_iload_n (pc := 71) (i := 2) dX12_fell_71 rfl 2 rfl ?_
          refine r_iload_n (pc := 72) (i := 3) dX12_fell_72 rfl 3 rfl ?_
          obtain ⟨q_8, hq_8, h⟩ := ob h
          refine r_cV (pc := 73) (Y := xX12_fallOf) (As := [.int (eI x2), .int (eI x3)]) (rest := []) (v := (some (.int (eI q_8)))) (st1 := [.int (eI q_8)]) ck_X12_fell_569 (kX12_fallOf a0 x2 x3 q_2.2 oa0 hq_8) oa0 rfl rfl rfl rfl (Nat.le_of_ble_eq_true rfl) ⟨rfl, rfl⟩ rfl dX12_fell_73 ?_
          refine r_goto (pc := 76) (tgt := 81) dX12_fell_76 (by decide) ?_
          cases h
          exact r_iret (pc := 81) rfl rfl (Nat.le_refl 0) (Nat.le_refl 0) dX12_fell_81
    · replace h := (if_pos c_4).symm.trans h
      refine r_iload_n (pc := 21) (i := 3) dX12_fell_21 rfl 3 rfl ?_
      refine r_if_ne (pc := 22) (tgt := 32) dX12_fell_22 (by decide) rfl (fun c_9 => ?_) (fun c_9 => ?_)
      · replace h := (if_neg c_9).symm.trans h
        refine r_iload_n (pc := 32) (i := 3) dX12_fell_32 rfl 3 rfl ?_
        refine r_iconst (pc := 33) (v := 1) dX12_fell_33 (by decide +kernel) ?_
        refine r_icmp_ne (pc := 34) (tgt := 44) dX12_fell_34 (by decide) rfl wl_1 (fun c_10 => ?_) (fun c_10 => ?_)
        · replace h := (if_neg c_10).symm.trans h
          refine r_bipush (pc := 44) (v := (-2)) dX12_fell_44 (by decide +kernel) ?_
          cases h
          exact r_iret (pc := 46) rfl rfl (Nat.le_refl 0) (Nat.le_refl 0) dX12_fell_46
        · replace h := (if_pos c_10).symm.trans h
          refine r_aload_n (pc := 37) (i := 0) dX12_fell_37 rfl 0 rfl ?_
          obtain ⟨q_11, hq_11, h⟩ := ob h
          refine r_cV (pc := 38) (Y := xX12_allFell) (As := []) (rest := []) (v := (some (.int (eI q_11)))) (st1 := [.int (eI q_11)]) ck_X12_fell_575 (kX12_allFell a0 q_2.2 oa0 hq_11) oa0 rfl rfl rfl rfl (Nat.le_of_ble_eq_true rfl) ⟨rfl, rfl⟩ rfl dX12_fell_38 ?_
          refine r_goto (pc := 41) (tgt := 46) dX12_fell_41 (by decide) ?_
          cases h
          exact r_iret (pc := 46) rfl rfl (Nat.le_refl 0) (Nat.le_refl 0) dX12_fell_46
      · replace h := (if_pos c_9).symm.trans h
        refine r_aload_n (pc := 25) (i := 0) dX12_fell_25 rfl 0 rfl ?_
        obtain ⟨q_12, hq_12, h⟩ := ob h
        refine r_cV (pc := 26) (Y := xX12_falls) (As := []) (rest := []) (v := (some (.int (eI q_12)))) (st1 := [.int (eI q_12)]) ck_X12_fell_566 (kX12_falls a0 q_2.2 oa0 hq_12) oa0 rfl rfl rfl rfl (Nat.le_of_ble_eq_true rfl) ⟨rfl, rfl⟩ rfl dX12_fell_26 ?_
        refine r_goto (pc := 29) (tgt := 46) dX12_fell_29 (by decide) ?_
        cases h
        exact r_iret (pc := 46) rfl rfl (Nat.le_refl 0) (Nat.le_refl 0) dX12_fell_46
  · replace h := (if_pos c_3).symm.trans h
    refine r_bipush (pc := 13) (v := (-2)) dX12_fell_13 (by decide +kernel) ?_
    cases h
    exact r_iret (pc := 15) rfl rfl (Nat.le_refl 0) (Nat.le_refl 0) dX12_fell_15
theorem kX12_fell {G : GG} (a0 : Nat) (x1 : Int) (x2 : Int) (x3 : Int) (M : MM) {res : (Int × MM)} (oa0 : OB L0 a0 12) (h : sX12_fell a0 x1 x2 x3 M = some res) : CO G xX12_fell [.ref (gA G a0), .int (eI x1), .int (eI x2), .int (eI x3)] L0 M (some (.int (eI res.1))) L0 res.2 := CO_of (by decide +kernel) (Nat.le_of_ble_eq_true rfl) (bX12_fell_b0 a0 x1 x2 x3 oa0 M h)
abbrev xX12_pickUp : XX := (yX12_pickUp, cX12_pickUp, 2, none, 4, 88, 0, 0)
theorem ck_X12_pickUp_542 : CKV xX12_pickUp 542 xX12_picks 1 := ⟨⟨tb_i 2033 (by decide +kernel) (by decide +kernel), tb_i 152 (by decide +kernel) (by decide +kernel), tb_i 2036 (by decide +kernel) (by decide +kernel), ⟨by decide +kernel, by decide +kernel, by decide +kernel⟩, by decide, by decide⟩, tb_i 2035 (by decide +kernel) (by decide +kernel), tb_i 111 (by decide +kernel) (by decide +kernel)⟩
theorem ck_X12_pickUp_566 : CKV xX12_pickUp 566 xX12_falls 0 := ⟨⟨tb_i 2089 (by decide +kernel) (by decide +kernel), tb_i 152 (by decide +kernel) (by decide +kernel), tb_i 2092 (by decide +kernel) (by decide +kernel), ⟨by decide +kernel, by decide +kernel, by decide +kernel⟩, by decide, by decide⟩, tb_i 2091 (by decide +kernel) (by decide +kernel), tb_i 120 (by decide +kernel) (by decide +kernel)⟩
theorem ck_X12_pickUp_569 : CKV xX12_pickUp 569 xX12_fallOf 2 := ⟨⟨tb_i 2097 (by decide +kernel) (by decide +kernel), tb_i 152 (by decide +kernel) (by decide +kernel), tb_i 2100 (by decide +kernel) (by decide +kernel), ⟨by decide +kernel, by decide +kernel, by decide +kernel⟩, by decide, by decide⟩, tb_i 2099 (by decide +kernel) (by decide +kernel), tb_i 122 (by decide +kernel) (by decide +kernel)⟩
def sX12_pickUp_b23 (a0 : Nat)  : Nat → Int → MM → Option MM
  | 0, _, _ => none
  | n + 1, x1, M => ((sX12_falls a0 M).bind fun q_1 => (if wI q_1 ≤ wI x1 then (some (M)) else ((sX12_fallOf a0 x1 0 M).bind fun q_4 => ((sX12_picks a0 q_4 M).bind fun q_5 => (if 0 ≤ wI q_5 ∧ wI q_5 < 8 then ((sX12_fallOf a0 x1 1 M).bind fun q_7 => (if 0 ≤ wI q_5 ∧ wI q_5 < 8 then ((some (mU M (gR a0 61) (wI q_5).toNat ((M (gR a0 61) (wI q_5).toNat) + q_7))).bind fun M_9 => ((some (x1 + 1)).bind fun v_10 => (sX12_pickUp_b23 a0 n v_10 M_9))) else none)) else none)))))
def sX12_pickUp_b2 (a0 : Nat)  : Nat → Int → MM → Option MM
  | 0, _, _ => none
  | n + 1, x1, M => (if 8 ≤ wI x1 then (sX12_pickUp_b23 a0 FU 0 M) else (if 0 ≤ wI x1 ∧ wI x1 < 8 then ((some (mU M (gR a0 61) (wI x1).toNat 0)).bind fun M_4 => ((some (x1 + 1)).bind fun v_5 => (sX12_pickUp_b2 a0 n v_5 M_4))) else none))
def sX12_pickUp_b0 (a0 : Nat)   (M : MM) : Option MM := (sX12_pickUp_b2 a0 FU 0 M)
def sX12_pickUp (a0 : Nat) (M : MM) : Option MM := sX12_pickUp_b0 a0 M
set_option maxHeartbeats 4000000 in
set_option maxRecDepth 100000 in
theorem bX12_pickUp_b23 {G : GG} (a0 : Nat) (oa0 : OB L0 a0 12) {res : MM} : ∀ (n : Nat) (x1 : Int) (M : MM)  (h : sX12_pickUp_b23 a0 n x1 M = some res), VV G xX12_pickUp (ZM G xX12_pickUp (none) L0 res) L0 M 0 0 23 [(0, .ref (gA G a0)), (1, .int (eI x1))] [] := by
  intro n
  induction n with
  | zero =>
    intro x1 M h
    rw [sX12_pickUp_b23] at h
    cases h
  | succ n ih =>
    intro x1 M h
    rw [sX12_pickUp_b23] at h
    refine r_iload_n (pc := 23) (i := 1) dX12_pickUp_23 rfl 1 rfl ?_
    refine r_aload_n (pc := 24) (i := 0) dX12_pickUp_24 rfl 0 rfl ?_
    obtain ⟨q_1, hq_1, h⟩ := ob h
    refine r_cV (pc := 25) (Y := xX12_falls) (As := []) (rest := [.int (eI x1)]) (v := (some (.int (eI q_1)))) (st1 := [.int (eI q_1), .int (eI x1)]) ck_X12_pickUp_566 (kX12_falls a0 M oa0 hq_1) oa0 rfl rfl rfl rfl (Nat.le_of_ble_eq_true rfl) ⟨rfl, rfl⟩ rfl dX12_pickUp_25 ?_
    refine r_icmp_ge (pc := 28) (tgt := 61) dX12_pickUp_28 (by decide) rfl rfl (fun c_2 => ?_) (fun c_2 => ?_)
    · replace h := (if_pos c_2).symm.trans h
      cases h
      exact r_vret (pc := 61) rfl (Nat.le_refl 0) (Nat.le_refl 0) dX12_pickUp_61
    · replace h := (if_neg c_2).symm.trans h
      refine r_aload_n (pc := 31) (i := 0) dX12_pickUp_31 rfl 0 rfl ?_
      have o_3 := (wt_12_61 oa0).2
      refine r_getR (pc := 32) fg_12_87 rfl oa0 (wt_12_61 oa0).1 dX12_pickUp_32 ?_
      refine r_aload_n (pc := 35) (i := 0) dX12_pickUp_35 rfl 0 rfl ?_
      refine r_aload_n (pc := 36) (i := 0) dX12_pickUp_36 rfl 0 rfl ?_
      refine r_iload_n (pc := 37) (i := 1) dX12_pickUp_37 rfl 1 rfl ?_
      refine r_iconst (pc := 38) (v := 0) dX12_pickUp_38 (by decide +kernel) ?_
      obtain ⟨q_4, hq_4, h⟩ := ob h
      refine r_cV (pc := 39) (Y := xX12_fallOf) (As := [.int (eI x1), .int (eI 0)]) (rest := [.ref (gA G a0), .ref (gA G (gR a0 61))]) (v := (some (.int (eI q_4)))) (st1 := [.int (eI q_4), .ref (gA G a0), .ref (gA G (gR a0 61))]) ck_X12_pickUp_569 (kX12_fallOf a0 x1 0 M oa0 hq_4) oa0 rfl rfl rfl rfl (Nat.le_of_ble_eq_true rfl) ⟨rfl, rfl⟩ rfl dX12_pickUp_39 ?_
      obtain ⟨q_5, hq_5, h⟩ := ob h
      refine r_cV (pc := 42) (Y := xX12_picks) (As := [.int (eI q_4)]) (rest := [.ref (gA G (gR a0 61))]) (v := (some (.int (eI q_5)))) (st1 := [.int (eI q_5), .ref (gA G (gR a0 61))]) ck_X12_pickUp_542 (kX12_picks a0 q_4 M oa0 hq_5) oa0 rfl rfl rfl rfl (Nat.le_of_ble_eq_true rfl) ⟨rfl, rfl⟩ rfl dX12_pickUp_42 ?_
      refine r_dup2 (pc := 45) dX12_pickUp_45 rfl rfl ?_
      obtain ⟨c_6, h⟩ := og h
      refine r_iald (pc := 46) o_3 rfl c_6 rfl dX12_pickUp_46 ?_
      refine r_aload_n (pc := 47) (i := 0) dX12_pickUp_47 rfl 0 rfl ?_
      refine r_iload_n (pc := 48) (i := 1) dX12_pickUp_48 rfl 1 rfl ?_
      refine r_iconst (pc := 49) (v := 1) dX12_pickUp_49 (by decide +kernel) ?_
      obtain ⟨q_7, hq_7, h⟩ := ob h
      refine r_cV (pc := 50) (Y := xX12_fallOf) (As := [.int (eI x1), .int (eI 1)]) (rest := [.int (eI (M (gR a0 61) (wI q_5).toNat)), .int (eI q_5), .ref (gA G (gR a0 61))]) (v := (some (.int (eI q_7)))) (st1 := [.int (eI q_7), .int (eI (M (gR a0 61) (wI q_5).toNat)), .int (eI q_5), .ref (gA G (gR a0 61))]) ck_X12_pickUp_569 (kX12_fallOf a0 x1 1 M oa0 hq_7) oa0 rfl rfl rfl rfl (Nat.le_of_ble_eq_true rfl) ⟨rfl, rfl⟩ rfl dX12_pickUp_50 ?_
      refine r_iadd (pc := 53) dX12_pickUp_53 ?_
      obtain ⟨c_8, h⟩ := og h
      obtain ⟨M_9, hM_9, h⟩ := ob h
      refine r_iast (pc := 54) o_3 rfl c_8 rfl hM_9 dX12_pickUp_54 ?_
      obtain ⟨v_10, hv_10, h⟩ := ob h
      refine r_iinc (pc := 55) (y := v_10) (lv' := [(1, .int (eI v_10)), (0, .ref (gA G a0))]) dX12_pickUp_55 1 rfl (Option.some.inj hv_10) (Nat.le_of_ble_eq_true rfl) rfl ?_
      refine r_goto (pc := 58) (tgt := 23) dX12_pickUp_58 (by decide) ?_
      refine r_sub (lv' := [(0, .ref (gA G a0)), (1, .int (eI v_10))]) [1, 0] rfl ?_
      exact ih _ _ h
set_option maxHeartbeats 4000000 in
set_option maxRecDepth 100000 in
theorem bX12_pickUp_b2 {G : GG} (a0 : Nat) (oa0 : OB L0 a0 12) {res : MM} : ∀ (n : Nat) (x1 : Int) (M : MM)  (h : sX12_pickUp_b2 a0 n x1 M = some res), VV G xX12_pickUp (ZM G xX12_pickUp (none) L0 res) L0 M 0 0 2 [(0, .ref (gA G a0)), (1, .int (eI x1))] [] := by
  intro n
  induction n with
  | zero =>
    intro x1 M h
    rw [sX12_pickUp_b2] at h
    cases h
  | succ n ih =>
    intro x1 M h
    rw [sX12_pickUp_b2] at h
    refine r_iload_n (pc := 2) (i := 1) dX12_pickUp_2 rfl 1 rfl ?_
    refine r_bipush (pc := 3) (v := 8) dX12_pickUp_3 (by decide +kernel) ?_
    refine r_icmp_ge (pc := 5) (tgt := 21) dX12_pickUp_5 (by decide) rfl wl_8 (fun c_1 => ?_) (fun c_1 => ?_)
    · replace h := (if_pos c_1).symm.trans h
      refine r_iconst (pc := 21) (v := 0) dX12_pickUp_21 (by decide +kernel) ?_
      refine r_istore_n (pc := 22) (i := 1) (lv' := [(1, .int (eI 0)), (0, .ref (gA G a0))]) dX12_pickUp_22 rfl (Nat.le_of_ble_eq_true rfl) rfl ?_
      refine r_sub (lv' := [(0, .ref (gA G a0)), (1, .int (eI 0))]) [1, 0] rfl ?_
      exact bX12_pickUp_b23 a0 oa0 _ _ _ h
    · replace h := (if_neg c_1).symm.trans h
      refine r_aload_n (pc := 8) (i := 0) dX12_pickUp_8 rfl 0 rfl ?_
      have o_2 := (wt_12_61 oa0).2
      refine r_getR (pc := 9) fg_12_87 rfl oa0 (wt_12_61 oa0).1 dX12_pickUp_9 ?_
      refine r_iload_n (pc := 12) (i := 1) dX12_pickUp_12 rfl 1 rfl ?_
      refine r_iconst (pc := 13) (v := 0) dX12_pickUp_13 (by decide +kernel) ?_
      obtain ⟨c_3, h⟩ := og h
      obtain ⟨M_4, hM_4, h⟩ := ob h
      refine r_iast (pc := 14) o_2 rfl c_3 rfl hM_4 dX12_pickUp_14 ?_
      obtain ⟨v_5, hv_5, h⟩ := ob h
      refine r_iinc (pc := 15) (y := v_5) (lv' := [(1, .int (eI v_5)), (0, .ref (gA G a0))]) dX12_pickUp_15 1 rfl (Option.some.inj hv_5) (Nat.le_of_ble_eq_true rfl) rfl ?_
      refine r_goto (pc := 18) (tgt := 2) dX12_pickUp_18 (by decide) ?_
      refine r_sub (lv' := [(0, .ref (gA G a0)), (1, .int (eI v_5))]) [1, 0] rfl ?_
      exact ih _ _ h
set_option maxHeartbeats 4000000 in
set_option maxRecDepth 100000 in
theorem bX12_pickUp_b0 {G : GG} (a0 : Nat) (oa0 : OB L0 a0 12)  (M : MM) {res : MM}  (h : sX12_pickUp_b0 a0 M = some res) : VV G xX12_pickUp (ZM G xX12_pickUp (none) L0 res) L0 M 0 0 0 [(0, .ref (gA G a0))] [] := by
  unfold sX12_pickUp_b0 at h
  refine r_iconst (pc := 0) (v := 0) dX12_pickUp_0 (by decide +kernel) ?_
  refine r_istore_n (pc := 1) (i := 1) (lv' := [(1, .int (eI 0)), (0, .ref (gA G a0))]) dX12_pickUp_1 rfl (Nat.le_of_ble_eq_true rfl) rfl ?_
  refine r_sub (lv' := [(0, .ref (gA G a0)), (1, .int (eI 0))]) [1, 0] rfl ?_
  exact bX12_pickUp_b2 a0 oa0 _ _ _ h
theorem kX12_pickUp {G : GG} (a0 : Nat) (M : MM) {res : MM} (oa0 : OB L0 a0 12) (h : sX12_pickUp a0 M = some res) : CO G xX12_pickUp [.ref (gA G a0)] L0 M (none) L0 res := CO_of (by decide +kernel) (Nat.le_of_ble_eq_true rfl) (bX12_pickUp_b0 a0 oa0 M h)
abbrev xX12_younger : XX := (yX12_younger, cX12_younger, 5, (some .int), 2, 43, 0, 0)
theorem ck_X12_younger_334 : CKV xX12_younger 334 xX12_ofChild 2 := ⟨⟨tb_i 1796 (by decide +kernel) (by decide +kernel), tb_i 152 (by decide +kernel) (by decide +kernel), tb_i 1799 (by decide +kernel) (by decide +kernel), ⟨by decide +kernel, by decide +kernel, by decide +kernel⟩, by decide, by decide⟩, tb_i 1798 (by decide +kernel) (by decide +kernel), tb_i 75 (by decide +kernel) (by decide +kernel)⟩
def sX12_younger_b48 (a0 : Nat) (x1 : Int) (M : MM) (K4 : Int → Int → Option Int) (x3 : Int) (x90 : Int) (x91 : Int) : Option Int := ((some (x3 + 1)).bind fun v_1 => (K4 (x90 + x91) v_1))
def sX12_younger_b47 (a0 : Nat) (x1 : Int) (M : MM) (K4 : Int → Int → Option Int) (x3 : Int) (x90 : Int) : Option Int := (sX12_younger_b48 a0 x1 M K4 x3 x90 0)
def sX12_younger_b43 (a0 : Nat) (x1 : Int) (M : MM) (K4 : Int → Int → Option Int) (x3 : Int) (x90 : Int) : Option Int := (sX12_younger_b48 a0 x1 M K4 x3 x90 1)
def sX12_younger_b4 (a0 : Nat) (x1 : Int) (M : MM)  : Nat → Int → Int → Option Int
  | 0, _, _ => none
  | n + 1, x2, x3 => (if wI (M a0 26) ≤ wI x3 then (some (x2)) else ((sX12_ofChild a0 x3 0 M).bind fun q_2 => ((sX12_ofChild a0 x1 0 M).bind fun q_3 => (if wI (q_2 - q_3) < 0 then (sX12_younger_b43 a0 x1 M (fun x2 x3 => sX12_younger_b4 a0 x1 M n x2 x3) x3 x2) else (if wI (q_2 - q_3) = 0 then (if wI x1 ≤ wI x3 then (sX12_younger_b47 a0 x1 M (fun x2 x3 => sX12_younger_b4 a0 x1 M n x2 x3) x3 x2) else (sX12_younger_b43 a0 x1 M (fun x2 x3 => sX12_younger_b4 a0 x1 M n x2 x3) x3 x2)) else (sX12_younger_b47 a0 x1 M (fun x2 x3 => sX12_younger_b4 a0 x1 M n x2 x3) x3 x2))))))
def sX12_younger_b0 (a0 : Nat) (x1 : Int) (M : MM)   : Option Int := (sX12_younger_b4 a0 x1 M FU 0 0)
def sX12_younger (a0 : Nat) (x1 : Int) (M : MM) : Option Int := sX12_younger_b0 a0 x1 M
set_option maxHeartbeats 4000000 in
set_option maxRecDepth 100000 in
theorem bX12_younger_b48 {G : GG} (a0 : Nat) (x1 : Int) (M : MM) (oa0 : OB L0 a0 12) {K4 : Int → Int → Option Int} (x3 : Int) (x90 : Int) (x91 : Int) {res : Int} (hK4 : ∀ (x2 : Int) (x3 : Int), K4 x2 x3 = some res → VV G xX12_younger (ZM G xX12_younger (some (.int (eI res))) L0 M) L0 M 0 0 4 [(0, .ref (gA G a0)), (1, .int (eI x1)), (2, .int (eI x2)), (3, .int (eI x3))] [])  (h : sX12_younger_b48 a0 x1 M K4 x3 x90 x91 = some res) : VV G xX12_younger (ZM G xX12_younger (some (.int (eI res))) L0 M) L0 M 0 0 48 [(0, .ref (gA G a0)), (1, .int (eI x1)), (3, .int (eI x3))] [.int (eI x91), .int (eI x90)] := by
  unfold sX12_younger_b48 at h
  refine r_iadd (pc := 48) dX12_younger_48 ?_
  refine r_istore_n (pc := 49) (i := 2) (lv' := [(2, .int (eI (x90 + x91))), (0, .ref (gA G a0)), (1, .int (eI x1)), (3, .int (eI x3))]) dX12_younger_49 rfl (Nat.le_of_ble_eq_true rfl) rfl ?_
  obtain ⟨v_1, hv_1, h⟩ := ob h
  refine r_iinc (pc := 50) (y := v_1) (lv' := [(3, .int (eI v_1)), (2, .int (eI (x90 + x91))), (0, .ref (gA G a0)), (1, .int (eI x1))]) dX12_younger_50 3 rfl (Option.some.inj hv_1) (Nat.le_of_ble_eq_true rfl) rfl ?_
  refine r_goto (pc := 53) (tgt := 4) dX12_younger_53 (by decide) ?_
  refine r_sub (lv' := [(0, .ref (gA G a0)), (1, .int (eI x1)), (2, .int (eI (x90 + x91))), (3, .int (eI v_1))]) [2, 3, 1, 0] rfl ?_
  exact hK4 _ _ h
set_option maxHeartbeats 4000000 in
set_option maxRecDepth 100000 in
theorem bX12_younger_b47 {G : GG} (a0 : Nat) (x1 : Int) (M : MM) (oa0 : OB L0 a0 12) {K4 : Int → Int → Option Int} (x3 : Int) (x90 : Int) {res : Int} (hK4 : ∀ (x2 : Int) (x3 : Int), K4 x2 x3 = some res → VV G xX12_younger (ZM G xX12_younger (some (.int (eI res))) L0 M) L0 M 0 0 4 [(0, .ref (gA G a0)), (1, .int (eI x1)), (2, .int (eI x2)), (3, .int (eI x3))] [])  (h : sX12_younger_b47 a0 x1 M K4 x3 x90 = some res) : VV G xX12_younger (ZM G xX12_younger (some (.int (eI res))) L0 M) L0 M 0 0 47 [(0, .ref (gA G a0)), (1, .int (eI x1)), (3, .int (eI x3))] [.int (eI x90)] := by
  unfold sX12_younger_b47 at h
  refine r_iconst (pc := 47) (v := 0) dX12_younger_47 (by decide +kernel) ?_
  refine r_sub (lv' := [(0, .ref (gA G a0)), (1, .int (eI x1)), (3, .int (eI x3))]) [0, 1, 2] rfl ?_
  exact bX12_younger_b48 a0 x1 M oa0 _ _ _ hK4 h
set_option maxHeartbeats 4000000 in
set_option maxRecDepth 100000 in
theorem bX12_younger_b43 {G : GG} (a0 : Nat) (x1 : Int) (M : MM) (oa0 : OB L0 a0 12) {K4 : Int → Int → Option Int} (x3 : Int) (x90 : Int) {res : Int} (hK4 : ∀ (x2 : Int) (x3 : Int), K4 x2 x3 = some res → VV G xX12_younger (ZM G xX12_younger (some (.int (eI res))) L0 M) L0 M 0 0 4 [(0, .ref (gA G a0)), (1, .int (eI x1)), (2, .int (eI x2)), (3, .int (eI x3))] [])  (h : sX12_younger_b43 a0 x1 M K4 x3 x90 = some res) : VV G xX12_younger (ZM G xX12_younger (some (.int (eI res))) L0 M) L0 M 0 0 43 [(0, .ref (gA G a0)), (1, .int (eI x1)), (3, .int (eI x3))] [.int (eI x90)] := by
  unfold sX12_younger_b43 at h
  refine r_iconst (pc := 43) (v := 1) dX12_younger_43 (by decide +kernel) ?_
  refine r_goto (pc := 44) (tgt := 48) dX12_younger_44 (by decide) ?_
  refine r_sub (lv' := [(0, .ref (gA G a0)), (1, .int (eI x1)), (3, .int (eI x3))]) [0, 1, 2] rfl ?_
  exact bX12_younger_b48 a0 x1 M oa0 _ _ _ hK4 h
set_option maxHeartbeats 4000000 in
set_option maxRecDepth 100000 in
theorem bX12_younger_b4 {G : GG} (a0 : Nat) (x1 : Int) (M : MM) (oa0 : OB L0 a0 12) {res : Int} : ∀ (n : Nat) (x2 : Int) (x3 : Int)  (h : sX12_younger_b4 a0 x1 M n x2 x3 = some res), VV G xX12_younger (ZM G xX12_younger (some (.int (eI res))) L0 M) L0 M 0 0 4 [(0, .ref (gA G a0)), (1, .int (eI x1)), (2, .int (eI x2)), (3, .int (eI x3))] [] := by
  intro n
  induction n with
  | zero =>
    intro x2 x3 h
    rw [sX12_younger_b4] at h
    cases h
  | succ n ih =>
    intro x2 x3 h
    rw [sX12_younger_b4] at h
    refine r_iload_n (pc := 4) (i := 3) dX12_younger_4 rfl 3 rfl ?_
    refine r_aload_n (pc := 5) (i := 0) dX12_younger_5 rfl 0 rfl ?_
    refine r_getI (pc := 6) fg_12_319 rfl oa0 dX12_younger_6 ?_
    refine r_icmp_ge (pc := 9) (tgt := 56) dX12_younger_9 (by decide) rfl rfl (fun c_1 => ?_) (fun c_1 => ?_)
    · replace h := (if_pos c_1).symm.trans h
      refine r_iload_n (pc := 56) (i := 2) dX12_younger_56 rfl 2 rfl ?_
      cases h
      exact r_iret (pc := 57) rfl rfl (Nat.le_refl 0) (Nat.le_refl 0) dX12_younger_57
    · replace h := (if_neg c_1).symm.trans h
      refine r_aload_n (pc := 12) (i := 0) dX12_younger_12 rfl 0 rfl ?_
      refine r_iload_n (pc := 13) (i := 3) dX12_younger_13 rfl 3 rfl ?_
      refine r_iconst (pc := 14) (v := 0) dX12_younger_14 (by decide +kernel) ?_
      obtain ⟨q_2, hq_2, h⟩ := ob h
      refine r_cV (pc := 15) (Y := xX12_ofChild) (As := [.int (eI x3), .int (eI 0)]) (rest := []) (v := (some (.int (eI q_2)))) (st1 := [.int (eI q_2)]) ck_X12_younger_334 (kX12_ofChild a0 x3 0 M oa0 hq_2) oa0 rfl rfl rfl rfl (Nat.le_of_ble_eq_true rfl) ⟨rfl, rfl⟩ rfl dX12_younger_15 ?_
      refine r_aload_n (pc := 18) (i := 0) dX12_younger_18 rfl 0 rfl ?_
      refine r_iload_n (pc := 19) (i := 1) dX12_younger_19 rfl 1 rfl ?_
      refine r_iconst (pc := 20) (v := 0) dX12_younger_20 (by decide +kernel) ?_
      obtain ⟨q_3, hq_3, h⟩ := ob h
      refine r_cV (pc := 21) (Y := xX12_ofChild) (As := [.int (eI x1), .int (eI 0)]) (rest := [.int (eI q_2)]) (v := (some (.int (eI q_3)))) (st1 := [.int (eI q_3), .int (eI q_2)]) ck_X12_younger_334 (kX12_ofChild a0 x1 0 M oa0 hq_3) oa0 rfl rfl rfl rfl (Nat.le_of_ble_eq_true rfl) ⟨rfl, rfl⟩ rfl dX12_younger_21 ?_
      refine r_isub (pc := 24) dX12_younger_24 ?_
      refine r_istore (pc := 25) (lv' := [(4, .int (eI (q_2 - q_3))), (0, .ref (gA G a0)), (1, .int (eI x1)), (2, .int (eI x2)), (3, .int (eI x3))]) dX12_younger_25 (Nat.le_of_ble_eq_true rfl) rfl ?_
      refine r_iload_n (pc := 27) (i := 2) dX12_younger_27 rfl 3 rfl ?_
      refine r_iload (pc := 28) dX12_younger_28 0 rfl ?_
      refine r_if_lt (pc := 30) (tgt := 43) dX12_younger_30 (by decide) rfl (fun c_4 => ?_) (fun c_4 => ?_)
      · replace h := (if_pos c_4).symm.trans h
        refine r_sub (lv' := [(0, .ref (gA G a0)), (1, .int (eI x1)), (3, .int (eI x3))]) [1, 2, 4] rfl ?_
        exact bX12_younger_b43 a0 x1 M oa0 _ _ (fun v0 v1 v2 => ih v0 v1 v2) h
      · replace h := (if_neg c_4).symm.trans h
        refine r_iload (pc := 33) dX12_younger_33 0 rfl ?_
        refine r_if_ne (pc := 35) (tgt := 47) dX12_younger_35 (by decide) rfl (fun c_5 => ?_) (fun c_5 => ?_)
        · replace h := (if_neg c_5).symm.trans h
          refine r_sub (lv' := [(0, .ref (gA G a0)), (1, .int (eI x1)), (3, .int (eI x3))]) [1, 2, 4] rfl ?_
          exact bX12_younger_b47 a0 x1 M oa0 _ _ (fun v0 v1 v2 => ih v0 v1 v2) h
        · replace h := (if_pos c_5).symm.trans h
          refine r_iload_n (pc := 38) (i := 3) dX12_younger_38 rfl 4 rfl ?_
          refine r_iload_n (pc := 39) (i := 1) dX12_younger_39 rfl 2 rfl ?_
          refine r_icmp_ge (pc := 40) (tgt := 47) dX12_younger_40 (by decide) rfl rfl (fun c_6 => ?_) (fun c_6 => ?_)
          · replace h := (if_pos c_6).symm.trans h
            refine r_sub (lv' := [(0, .ref (gA G a0)), (1, .int (eI x1)), (3, .int (eI x3))]) [1, 2, 4] rfl ?_
            exact bX12_younger_b47 a0 x1 M oa0 _ _ (fun v0 v1 v2 => ih v0 v1 v2) h
          · replace h := (if_neg c_6).symm.trans h
            refine r_sub (lv' := [(0, .ref (gA G a0)), (1, .int (eI x1)), (3, .int (eI x3))]) [1, 2, 4] rfl ?_
            exact bX12_younger_b43 a0 x1 M oa0 _ _ (fun v0 v1 v2 => ih v0 v1 v2) h
set_option maxHeartbeats 4000000 in
set_option maxRecDepth 100000 in
theorem bX12_younger_b0 {G : GG} (a0 : Nat) (x1 : Int) (M : MM) (oa0 : OB L0 a0 12)  {res : Int}  (h : sX12_younger_b0 a0 x1 M = some res) : VV G xX12_younger (ZM G xX12_younger (some (.int (eI res))) L0 M) L0 M 0 0 0 [(0, .ref (gA G a0)), (1, .int (eI x1))] [] := by
  unfold sX12_younger_b0 at h
  refine r_iconst (pc := 0) (v := 0) dX12_younger_0 (by decide +kernel) ?_
  refine r_istore_n (pc := 1) (i := 2) (lv' := [(2, .int (eI 0)), (0, .ref (gA G a0)), (1, .int (eI x1))]) dX12_younger_1 rfl (Nat.le_of_ble_eq_true rfl) rfl ?_
  refine r_iconst (pc := 2) (v := 0) dX12_younger_2 (by decide +kernel) ?_
  refine r_istore_n (pc := 3) (i := 3) (lv' := [(3, .int (eI 0)), (2, .int (eI 0)), (0, .ref (gA G a0)), (1, .int (eI x1))]) dX12_younger_3 rfl (Nat.le_of_ble_eq_true rfl) rfl ?_
  refine r_sub (lv' := [(0, .ref (gA G a0)), (1, .int (eI x1)), (2, .int (eI 0)), (3, .int (eI 0))]) [2, 3, 1, 0] rfl ?_
  exact bX12_younger_b4 a0 x1 M oa0 _ _ _ h
theorem kX12_younger {G : GG} (a0 : Nat) (x1 : Int) (M : MM) {res : Int} (oa0 : OB L0 a0 12) (h : sX12_younger a0 x1 M = some res) : CO G xX12_younger [.ref (gA G a0), .int (eI x1)] L0 M (some (.int (eI res))) L0 M := CO_of (by decide +kernel) (Nat.le_of_ble_eq_true rfl) (bX12_younger_b0 a0 x1 M oa0 h)
abbrev xX12_thanks : XX := (yX12_thanks, cX12_thanks, 2, none, 2, 43, 0, 0)
theorem ck_X12_thanks_334 : CKV xX12_thanks 334 xX12_ofChild 2 := ⟨⟨tb_i 1796 (by decide +kernel) (by decide +kernel), tb_i 152 (by decide +kernel) (by decide +kernel), tb_i 1799 (by decide +kernel) (by decide +kernel), ⟨by decide +kernel, by decide +kernel, by decide +kernel⟩, by decide, by decide⟩, tb_i 1798 (by decide +kernel) (by decide +kernel), tb_i 75 (by decide +kernel) (by decide +kernel)⟩
def sX12_thanks_b154 (a0 : Nat) (K81 : Int → MM → Option MM) (x1 : Int) (M : MM) : Option MM := ((some (x1 + 1)).bind fun v_1 => (K81 v_1 M))
def sX12_thanks_b81 (a0 : Nat)  : Nat → Int → MM → Option MM
  | 0, _, _ => none
  | n + 1, x1, M => (if wI (M a0 26) ≤ wI x1 then (some (M)) else (if wI (M a0 58) = (-1) then (some (M)) else (if wI x1 = wI (M a0 58) then (sX12_thanks_b154 a0 (fun x1 M => sX12_thanks_b81 a0 n x1 M) x1 M) else (if 0 ≤ wI (M a0 58) ∧ wI (M a0 58) < 8 then (if wI (M (gR a0 62) (wI (M a0 58)).toNat) ≤ 0 then (sX12_thanks_b154 a0 (fun x1 M => sX12_thanks_b81 a0 n x1 M) x1 M) else ((sX12_ofChild a0 x1 (5 + (M a0 58)) M).bind fun q_7 => (if wI q_7 = 0 then (if 0 ≤ wI x1 ∧ wI x1 < 8 then (if 0 ≤ wI x1 ∧ wI x1 < 8 then ((some (mU M (gR a0 62) (wI x1).toNat ((M (gR a0 62) (wI x1).toNat) + 1))).bind fun M_12 => (if 0 ≤ wI (M_12 a0 58) ∧ wI (M_12 a0 58) < 8 then (if 0 ≤ wI (M_12 a0 58) ∧ wI (M_12 a0 58) < 8 then ((some (mU M_12 (gR a0 62) (wI (M_12 a0 58)).toNat ((M_12 (gR a0 62) (wI (M_12 a0 58)).toNat) - 1))).bind fun M_16 => (sX12_thanks_b154 a0 (fun x1 M => sX12_thanks_b81 a0 n x1 M) x1 M_16)) else none) else none)) else none) else none) else (sX12_thanks_b154 a0 (fun x1 M => sX12_thanks_b81 a0 n x1 M) x1 M)))) else none))))
def sX12_thanks_b79 (a0 : Nat)   (M : MM) : Option MM := (sX12_thanks_b81 a0 FU 0 M)
def sX12_thanks_b73 (a0 : Nat) (K2 : Int → MM → Option MM) (x1 : Int) (M : MM) : Option MM := ((some (x1 + 1)).bind fun v_1 => (K2 v_1 M))
def sX12_thanks_b2 (a0 : Nat)  : Nat → Int → MM → Option MM
  | 0, _, _ => none
  | n + 1, x1, M => (if wI (M a0 26) ≤ wI x1 then (sX12_thanks_b79 a0 M) else (if wI (M a0 58) = (-1) then (sX12_thanks_b79 a0 M) else (if wI x1 = wI (M a0 58) then (sX12_thanks_b73 a0 (fun x1 M => sX12_thanks_b2 a0 n x1 M) x1 M) else (if 0 ≤ wI x1 ∧ wI x1 < 8 then (if wI (M (gR a0 61) (wI x1).toNat) ≤ 0 then (sX12_thanks_b73 a0 (fun x1 M => sX12_thanks_b2 a0 n x1 M) x1 M) else ((sX12_ofChild a0 x1 (5 + (M a0 58)) M).bind fun q_7 => (if wI q_7 = 2 then (if 0 ≤ wI x1 ∧ wI x1 < 8 then (if 0 ≤ wI x1 ∧ wI x1 < 8 then ((some (mU M (gR a0 62) (wI x1).toNat ((M (gR a0 62) (wI x1).toNat) - 1))).bind fun M_12 => (if 0 ≤ wI (M_12 a0 58) ∧ wI (M_12 a0 58) < 8 then (if 0 ≤ wI (M_12 a0 58) ∧ wI (M_12 a0 58) < 8 then ((some (mU M_12 (gR a0 62) (wI (M_12 a0 58)).toNat ((M_12 (gR a0 62) (wI (M_12 a0 58)).toNat) + 1))).bind fun M_16 => (sX12_thanks_b73 a0 (fun x1 M => sX12_thanks_b2 a0 n x1 M) x1 M_16)) else none) else none)) else none) else none) else (sX12_thanks_b73 a0 (fun x1 M => sX12_thanks_b2 a0 n x1 M) x1 M)))) else none))))
def sX12_thanks_b0 (a0 : Nat)   (M : MM) : Option MM := (sX12_thanks_b2 a0 FU 0 M)
def sX12_thanks (a0 : Nat) (M : MM) : Option MM := sX12_thanks_b0 a0 M
set_option maxHeartbeats 4000000 in
set_option maxRecDepth 100000 in
theorem bX12_thanks_b154 {G : GG} (a0 : Nat) (oa0 : OB L0 a0 12) {K81 : Int → MM → Option MM} (x1 : Int) (M : MM) {res : MM} (hK81 : ∀ (x1 : Int) (M : MM), K81 x1 M = some res → VV G xX12_thanks (ZM G xX12_thanks (none) L0 res) L0 M 0 0 81 [(0, .ref (gA G a0)), (1, .int (eI x1))] [])  (h : sX12_thanks_b154 a0 K81 x1 M = some res) : VV G xX12_thanks (ZM G xX12_thanks (none) L0 res) L0 M 0 0 154 [(0, .ref (gA G a0)), (1, .int (eI x1))] [] := by
  unfold sX12_thanks_b154 at h
  obtain ⟨v_1, hv_1, h⟩ := ob h
  refine r_iinc (pc := 154) (y := v_1) (lv' := [(1, .int (eI v_1)), (0, .ref (gA G a0))]) dX12_thanks_154 1 rfl (Option.some.inj hv_1) (Nat.le_of_ble_eq_true rfl) rfl ?_
  refine r_goto (pc := 157) (tgt := 81) dX12_thanks_157 (by decide) ?_
  refine r_sub (lv' := [(0, .ref (gA G a0)), (1, .int (eI v_1))]) [1, 0] rfl ?_
  exact hK81 _ _ h
set_option maxHeartbeats 4000000 in
set_option maxRecDepth 100000 in
theorem bX12_thanks_b81 {G : GG} (a0 : Nat) (oa0 : OB L0 a0 12) {res : MM} : ∀ (n : Nat) (x1 : Int) (M : MM)  (h : sX12_thanks_b81 a0 n x1 M = some res), VV G xX12_thanks (ZM G xX12_thanks (none) L0 res) L0 M 0 0 81 [(0, .ref (gA G a0)), (1, .int (eI x1))] [] := by
  intro n
  induction n with
  | zero =>
    intro x1 M h
    rw [sX12_thanks_b81] at h
    cases h
  | succ n ih =>
    intro x1 M h
    rw [sX12_thanks_b81] at h
    refine r_iload_n (pc := 81) (i := 1) dX12_thanks_81 rfl 1 rfl ?_
    refine r_aload_n (pc := 82) (i := 0) dX12_thanks_82 rfl 0 rfl ?_
    refine r_getI (pc := 83) fg_12_319 rfl oa0 dX12_thanks_83 ?_
    refine r_icmp_ge (pc := 86) (tgt := 160) dX12_thanks_86 (by decide) rfl rfl (fun c_1 => ?_) (fun c_1 => ?_)
    · replace h := (if_pos c_1).symm.trans h
      cases h
      exact r_vret (pc := 160) rfl (Nat.le_refl 0) (Nat.le_refl 0) dX12_thanks_160
    · replace h := (if_neg c_1).symm.trans h
      refine r_aload_n (pc := 89) (i := 0) dX12_thanks_89 rfl 0 rfl ?_
      refine r_getI (pc := 90) fg_12_527 rfl oa0 dX12_thanks_90 ?_
      refine r_iconst (pc := 93) (v := (-1)) dX12_thanks_93 (by decide +kernel) ?_
      refine r_icmp_eq (pc := 94) (tgt := 160) dX12_thanks_94 (by decide) rfl wl_m1 (fun c_2 => ?_) (fun c_2 => ?_)
      · replace h := (if_pos c_2).symm.trans h
        cases h
        exact r_vret (pc := 160) rfl (Nat.le_refl 0) (Nat.le_refl 0) dX12_thanks_160
      · replace h := (if_neg c_2).symm.trans h
        refine r_iload_n (pc := 97) (i := 1) dX12_thanks_97 rfl 1 rfl ?_
        refine r_aload_n (pc := 98) (i := 0) dX12_thanks_98 rfl 0 rfl ?_
        refine r_getI (pc := 99) fg_12_527 rfl oa0 dX12_thanks_99 ?_
        refine r_icmp_eq (pc := 102) (tgt := 154) dX12_thanks_102 (by decide) rfl rfl (fun c_3 => ?_) (fun c_3 => ?_)
        · replace h := (if_pos c_3).symm.trans h
          refine r_sub (lv' := [(0, .ref (gA G a0)), (1, .int (eI x1))]) [0, 1] rfl ?_
          exact bX12_thanks_b154 a0 oa0 _ _ (fun v0 v1 v2 => ih v0 v1 v2) h
        · replace h := (if_neg c_3).symm.trans h
          refine r_aload_n (pc := 105) (i := 0) dX12_thanks_105 rfl 0 rfl ?_
          have o_4 := (wt_12_62 oa0).2
          refine r_getR (pc := 106) fg_12_90 rfl oa0 (wt_12_62 oa0).1 dX12_thanks_106 ?_
          refine r_aload_n (pc := 109) (i := 0) dX12_thanks_109 rfl 0 rfl ?_
          refine r_getI (pc := 110) fg_12_527 rfl oa0 dX12_thanks_110 ?_
          obtain ⟨c_5, h⟩ := og h
          refine r_iald (pc := 113) o_4 rfl c_5 rfl dX12_thanks_113 ?_
          refine r_if_le (pc := 114) (tgt := 154) dX12_thanks_114 (by decide) rfl (fun c_6 => ?_) (fun c_6 => ?_)
          · replace h := (if_pos c_6).symm.trans h
            refine r_sub (lv' := [(0, .ref (gA G a0)), (1, .int (eI x1))]) [0, 1] rfl ?_
            exact bX12_thanks_b154 a0 oa0 _ _ (fun v0 v1 v2 => ih v0 v1 v2) h
          · replace h := (if_neg c_6).symm.trans h
            refine r_aload_n (pc := 117) (i := 0) dX12_thanks_117 rfl 0 rfl ?_
            refine r_iload_n (pc := 118) (i := 1) dX12_thanks_118 rfl 1 rfl ?_
            refine r_iconst (pc := 119) (v := 5) dX12_thanks_119 (by decide +kernel) ?_
            refine r_aload_n (pc := 120) (i := 0) dX12_thanks_120 rfl 0 rfl ?_
            refine r_getI (pc := 121) fg_12_527 rfl oa0 dX12_thanks_121 ?_
            refine r_iadd (pc := 124) dX12_thanks_124 ?_
            obtain ⟨q_7, hq_7, h⟩ := ob h
            refine r_cV (pc := 125) (Y := xX12_ofChild) (As := [.int (eI x1), .int (eI (5 + (M a0 58)))]) (rest := []) (v := (some (.int (eI q_7)))) (st1 := [.int (eI q_7)]) ck_X12_thanks_334 (kX12_ofChild a0 x1 (5 + (M a0 58)) M oa0 hq_7) oa0 rfl rfl rfl rfl (Nat.le_of_ble_eq_true rfl) ⟨rfl, rfl⟩ rfl dX12_thanks_125 ?_
            refine r_if_ne (pc := 128) (tgt := 154) dX12_thanks_128 (by decide) rfl (fun c_8 => ?_) (fun c_8 => ?_)
            · replace h := (if_neg c_8).symm.trans h
              refine r_sub (lv' := [(0, .ref (gA G a0)), (1, .int (eI x1))]) [0, 1] rfl ?_
              exact bX12_thanks_b154 a0 oa0 _ _ (fun v0 v1 v2 => ih v0 v1 v2) h
            · replace h := (if_pos c_8).symm.trans h
              refine r_aload_n (pc := 131) (i := 0) dX12_thanks_131 rfl 0 rfl ?_
              have o_9 := (wt_12_62 oa0).2
              refine r_getR (pc := 132) fg_12_90 rfl oa0 (wt_12_62 oa0).1 dX12_thanks_132 ?_
              refine r_iload_n (pc := 135) (i := 1) dX12_thanks_135 rfl 1 rfl ?_
              refine r_dup2 (pc := 136) dX12_thanks_136 rfl rfl ?_
              obtain ⟨c_10, h⟩ := og h
              refine r_iald (pc := 137) o_9 rfl c_10 rfl dX12_thanks_137 ?_
              refine r_iconst (pc := 138) (v := 1) dX12_thanks_138 (by decide +kernel) ?_
              refine r_iadd (pc := 139) dX12_thanks_139 ?_
              obtain ⟨c_11, h⟩ := og h
              obtain ⟨M_12, hM_12, h⟩ := ob h
              refine r_iast (pc := 140) o_9 rfl c_11 rfl hM_12 dX12_thanks_140 ?_
              refine r_aload_n (pc := 141) (i := 0) dX12_thanks_141 rfl 0 rfl ?_
              have o_13 := (wt_12_62 oa0).2
              refine r_getR (pc := 142) fg_12_90 rfl oa0 (wt_12_62 oa0).1 dX12_thanks_142 ?_
              refine r_aload_n (pc := 145) (i := 0) dX12_thanks_145 rfl 0 rfl ?_
              refine r_getI (pc := 146) fg_12_527 rfl oa0 dX12_thanks_146 ?_
              refine r_dup2 (pc := 149) dX12_thanks_149 rfl rfl ?_
              obtain ⟨c_14, h⟩ := og h
              refine r_iald (pc := 150) o_13 rfl c_14 rfl dX12_thanks_150 ?_
              refine r_iconst (pc := 151) (v := 1) dX12_thanks_151 (by decide +kernel) ?_
              refine r_isub (pc := 152) dX12_thanks_152 ?_
              obtain ⟨c_15, h⟩ := og h
              obtain ⟨M_16, hM_16, h⟩ := ob h
              refine r_iast (pc := 153) o_13 rfl c_15 rfl hM_16 dX12_thanks_153 ?_
              refine r_sub (lv' := [(0, .ref (gA G a0)), (1, .int (eI x1))]) [0, 1] rfl ?_
              exact bX12_thanks_b154 a0 oa0 _ _ (fun v0 v1 v2 => ih v0 v1 v2) h
set_option maxHeartbeats 4000000 in
set_option maxRecDepth 100000 in
theorem bX12_thanks_b79 {G : GG} (a0 : Nat) (oa0 : OB L0 a0 12)  (M : MM) {res : MM}  (h : sX12_thanks_b79 a0 M = some res) : VV G xX12_thanks (ZM G xX12_thanks (none) L0 res) L0 M 0 0 79 [(0, .ref (gA G a0))] [] := by
  unfold sX12_thanks_b79 at h
  refine r_iconst (pc := 79) (v := 0) dX12_thanks_79 (by decide +kernel) ?_
  refine r_istore_n (pc := 80) (i := 1) (lv' := [(1, .int (eI 0)), (0, .ref (gA G a0))]) dX12_thanks_80 rfl (Nat.le_of_ble_eq_true rfl) rfl ?_
  refine r_sub (lv' := [(0, .ref (gA G a0)), (1, .int (eI 0))]) [1, 0] rfl ?_
  exact bX12_thanks_b81 a0 oa0 _ _ _ h
set_option maxHeartbeats 4000000 in
set_option maxRecDepth 100000 in
theorem bX12_thanks_b73 {G : GG} (a0 : Nat) (oa0 : OB L0 a0 12) {K2 : Int → MM → Option MM} (x1 : Int) (M : MM) {res : MM} (hK2 : ∀ (x1 : Int) (M : MM), K2 x1 M = some res → VV G xX12_thanks (ZM G xX12_thanks (none) L0 res) L0 M 0 0 2 [(0, .ref (gA G a0)), (1, .int (eI x1))] [])  (h : sX12_thanks_b73 a0 K2 x1 M = some res) : VV G xX12_thanks (ZM G xX12_thanks (none) L0 res) L0 M 0 0 73 [(0, .ref (gA G a0)), (1, .int (eI x1))] [] := by
  unfold sX12_thanks_b73 at h
  obtain ⟨v_1, hv_1, h⟩ := ob h
  refine r_iinc (pc := 73) (y := v_1) (lv' := [(1, .int (eI v_1)), (0, .ref (gA G a0))]) dX12_thanks_73 1 rfl (Option.some.inj hv_1) (Nat.le_of_ble_eq_true rfl) rfl ?_
  refine r_goto (pc := 76) (tgt := 2) dX12_thanks_76 (by decide) ?_
  refine r_sub (lv' := [(0, .ref (gA G a0)), (1, .int (eI v_1))]) [1, 0] rfl ?_
  exact hK2 _ _ h
set_option maxHeartbeats 4000000 in
set_option maxRecDepth 100000 in
theorem bX12_thanks_b2 {G : GG} (a0 : Nat) (oa0 : OB L0 a0 12) {res : MM} : ∀ (n : Nat) (x1 : Int) (M : MM)  (h : sX12_thanks_b2 a0 n x1 M = some res), VV G xX12_thanks (ZM G xX12_thanks (none) L0 res) L0 M 0 0 2 [(0, .ref (gA G a0)), (1, .int (eI x1))] [] := by
  intro n
  induction n with
  | zero =>
    intro x1 M h
    rw [sX12_thanks_b2] at h
    cases h
  | succ n ih =>
    intro x1 M h
    rw [sX12_thanks_b2] at h
    refine r_iload_n (pc := 2) (i := 1) dX12_thanks_2 rfl 1 rfl ?_
    refine r_aload_n (pc := 3) (i := 0) dX12_thanks_3 rfl 0 rfl ?_
    refine r_getI (pc := 4) fg_12_319 rfl oa0 dX12_thanks_4 ?_
    refine r_icmp_ge (pc := 7) (tgt := 79) dX12_thanks_7 (by decide) rfl rfl (fun c_1 => ?_) (fun c_1 => ?_)
    · replace h := (if_pos c_1).symm.trans h
      refine r_sub (lv' := [(0, .ref (gA G a0))]) [0] rfl ?_
      exact bX12_thanks_b79 a0 oa0 _ h
    · replace h := (if_neg c_1).symm.trans h
      refine r_aload_n (pc := 10) (i := 0) dX12_thanks_10 rfl 0 rfl ?_
      refine r_getI (pc := 11) fg_12_527 rfl oa0 dX12_thanks_11 ?_
      refine r_iconst (pc := 14) (v := (-1)) dX12_thanks_14 (by decide +kernel) ?_
      refine r_icmp_eq (pc := 15) (tgt := 79) dX12_thanks_15 (by decide) rfl wl_m1 (fun c_2 => ?_) (fun c_2 => ?_)
      · replace h := (if_pos c_2).symm.trans h
        refine r_sub (lv' := [(0, .ref (gA G a0))]) [0] rfl ?_
        exact bX12_thanks_b79 a0 oa0 _ h
      · replace h := (if_neg c_2).symm.trans h
        refine r_iload_n (pc := 18) (i := 1) dX12_thanks_18 rfl 1 rfl ?_
        refine r_aload_n (pc := 19) (i := 0) dX12_thanks_19 rfl 0 rfl ?_
        refine r_getI (pc := 20) fg_12_527 rfl oa0 dX12_thanks_20 ?_
        refine r_icmp_eq (pc := 23) (tgt := 73) dX12_thanks_23 (by decide) rfl rfl (fun c_3 => ?_) (fun c_3 => ?_)
        · replace h := (if_pos c_3).symm.trans h
          refine r_sub (lv' := [(0, .ref (gA G a0)), (1, .int (eI x1))]) [0, 1] rfl ?_
          exact bX12_thanks_b73 a0 oa0 _ _ (fun v0 v1 v2 => ih v0 v1 v2) h
        · replace h := (if_neg c_3).symm.trans h
          refine r_aload_n (pc := 26) (i := 0) dX12_thanks_26 rfl 0 rfl ?_
          have o_4 := (wt_12_61 oa0).2
          refine r_getR (pc := 27) fg_12_87 rfl oa0 (wt_12_61 oa0).1 dX12_thanks_27 ?_
          refine r_iload_n (pc := 30) (i := 1) dX12_thanks_30 rfl 1 rfl ?_
          obtain ⟨c_5, h⟩ := og h
          refine r_iald (pc := 31) o_4 rfl c_5 rfl dX12_thanks_31 ?_
          refine r_if_le (pc := 32) (tgt := 73) dX12_thanks_32 (by decide) rfl (fun c_6 => ?_) (fun c_6 => ?_)
          · replace h := (if_pos c_6).symm.trans h
            refine r_sub (lv' := [(0, .ref (gA G a0)), (1, .int (eI x1))]) [0, 1] rfl ?_
            exact bX12_thanks_b73 a0 oa0 _ _ (fun v0 v1 v2 => ih v0 v1 v2) h
          · replace h := (if_neg c_6).symm.trans h
            refine r_aload_n (pc := 35) (i := 0) dX12_thanks_35 rfl 0 rfl ?_
            refine r_iload_n (pc := 36) (i := 1) dX12_thanks_36 rfl 1 rfl ?_
            refine r_iconst (pc := 37) (v := 5) dX12_thanks_37 (by decide +kernel) ?_
            refine r_aload_n (pc := 38) (i := 0) dX12_thanks_38 rfl 0 rfl ?_
            refine r_getI (pc := 39) fg_12_527 rfl oa0 dX12_thanks_39 ?_
            refine r_iadd (pc := 42) dX12_thanks_42 ?_
            obtain ⟨q_7, hq_7, h⟩ := ob h
            refine r_cV (pc := 43) (Y := xX12_ofChild) (As := [.int (eI x1), .int (eI (5 + (M a0 58)))]) (rest := []) (v := (some (.int (eI q_7)))) (st1 := [.int (eI q_7)]) ck_X12_thanks_334 (kX12_ofChild a0 x1 (5 + (M a0 58)) M oa0 hq_7) oa0 rfl rfl rfl rfl (Nat.le_of_ble_eq_true rfl) ⟨rfl, rfl⟩ rfl dX12_thanks_43 ?_
            refine r_iconst (pc := 46) (v := 2) dX12_thanks_46 (by decide +kernel) ?_
            refine r_icmp_ne (pc := 47) (tgt := 73) dX12_thanks_47 (by decide) rfl wl_2 (fun c_8 => ?_) (fun c_8 => ?_)
            · replace h := (if_neg c_8).symm.trans h
              refine r_sub (lv' := [(0, .ref (gA G a0)), (1, .int (eI x1))]) [0, 1] rfl ?_
              exact bX12_thanks_b73 a0 oa0 _ _ (fun v0 v1 v2 => ih v0 v1 v2) h
            · replace h := (if_pos c_8).symm.trans h
              refine r_aload_n (pc := 50) (i := 0) dX12_thanks_50 rfl 0 rfl ?_
              have o_9 := (wt_12_62 oa0).2
              refine r_getR (pc := 51) fg_12_90 rfl oa0 (wt_12_62 oa0).1 dX12_thanks_51 ?_
              refine r_iload_n (pc := 54) (i := 1) dX12_thanks_54 rfl 1 rfl ?_
              refine r_dup2 (pc := 55) dX12_thanks_55 rfl rfl ?_
              obtain ⟨c_10, h⟩ := og h
              refine r_iald (pc := 56) o_9 rfl c_10 rfl dX12_thanks_56 ?_
              refine r_iconst (pc := 57) (v := 1) dX12_thanks_57 (by decide +kernel) ?_
              refine r_isub (pc := 58) dX12_thanks_58 ?_
              obtain ⟨c_11, h⟩ := og h
              obtain ⟨M_12, hM_12, h⟩ := ob h
              refine r_iast (pc := 59) o_9 rfl c_11 rfl hM_12 dX12_thanks_59 ?_
              refine r_aload_n (pc := 60) (i := 0) dX12_thanks_60 rfl 0 rfl ?_
              have o_13 := (wt_12_62 oa0).2
              refine r_getR (pc := 61) fg_12_90 rfl oa0 (wt_12_62 oa0).1 dX12_thanks_61 ?_
              refine r_aload_n (pc := 64) (i := 0) dX12_thanks_64 rfl 0 rfl ?_
              refine r_getI (pc := 65) fg_12_527 rfl oa0 dX12_thanks_65 ?_
              refine r_dup2 (pc := 68) dX12_thanks_68 rfl rfl ?_
              obtain ⟨c_14, h⟩ := og h
              refine r_iald (pc := 69) o_13 rfl c_14 rfl dX12_thanks_69 ?_
              refine r_iconst (pc := 70) (v := 1) dX12_thanks_70 (by decide +kernel) ?_
              refine r_iadd (pc := 71) dX12_thanks_71 ?_
              obtain ⟨c_15, h⟩ := og h
              obtain ⟨M_16, hM_16, h⟩ := ob h
              refine r_iast (pc := 72) o_13 rfl c_15 rfl hM_16 dX12_thanks_72 ?_
              refine r_sub (lv' := [(0, .ref (gA G a0)), (1, .int (eI x1))]) [0, 1] rfl ?_
              exact bX12_thanks_b73 a0 oa0 _ _ (fun v0 v1 v2 => ih v0 v1 v2) h
set_option maxHeartbeats 4000000 in
set_option maxRecDepth 100000 in
theorem bX12_thanks_b0 {G : GG} (a0 : Nat) (oa0 : OB L0 a0 12)  (M : MM) {res : MM}  (h : sX12_thanks_b0 a0 M = some res) : VV G xX12_thanks (ZM G xX12_thanks (none) L0 res) L0 M 0 0 0 [(0, .ref (gA G a0))] [] := by
  unfold sX12_thanks_b0 at h
  refine r_iconst (pc := 0) (v := 0) dX12_thanks_0 (by decide +kernel) ?_
  refine r_istore_n (pc := 1) (i := 1) (lv' := [(1, .int (eI 0)), (0, .ref (gA G a0))]) dX12_thanks_1 rfl (Nat.le_of_ble_eq_true rfl) rfl ?_
  refine r_sub (lv' := [(0, .ref (gA G a0)), (1, .int (eI 0))]) [1, 0] rfl ?_
  exact bX12_thanks_b2 a0 oa0 _ _ _ h
theorem kX12_thanks {G : GG} (a0 : Nat) (M : MM) {res : MM} (oa0 : OB L0 a0 12) (h : sX12_thanks a0 M = some res) : CO G xX12_thanks [.ref (gA G a0)] L0 M (none) L0 res := CO_of (by decide +kernel) (Nat.le_of_ble_eq_true rfl) (bX12_thanks_b0 a0 oa0 M h)
abbrev xX12_pack : XX := (yX12_pack, cX12_pack, 5, none, 3, 67, 0, 0)
theorem ck_X12_pack_575 : CKV xX12_pack 575 xX12_allFell 0 := ⟨⟨tb_i 2093 (by decide +kernel) (by decide +kernel), tb_i 152 (by decide +kernel) (by decide +kernel), tb_i 2096 (by decide +kernel) (by decide +kernel), ⟨by decide +kernel, by decide +kernel, by decide +kernel⟩, by decide, by decide⟩, tb_i 2095 (by decide +kernel) (by decide +kernel), tb_i 121 (by decide +kernel) (by decide +kernel)⟩
theorem ck_X12_pack_578 : CKV xX12_pack 578 xX12_younger 1 := ⟨⟨tb_i 2121 (by decide +kernel) (by decide +kernel), tb_i 152 (by decide +kernel) (by decide +kernel), tb_i 2124 (by decide +kernel) (by decide +kernel), ⟨by decide +kernel, by decide +kernel, by decide +kernel⟩, by decide, by decide⟩, tb_i 2123 (by decide +kernel) (by decide +kernel), tb_i 127 (by decide +kernel) (by decide +kernel)⟩
theorem ck_X12_pack_581 : CKV xX12_pack 581 xX12_thanks 0 := ⟨⟨tb_i 2125 (by decide +kernel) (by decide +kernel), tb_i 152 (by decide +kernel) (by decide +kernel), tb_i 2128 (by decide +kernel) (by decide +kernel), ⟨by decide +kernel, by decide +kernel, by decide +kernel⟩, by decide, by decide⟩, tb_i 2127 (by decide +kernel) (by decide +kernel), tb_i 128 (by decide +kernel) (by decide +kernel)⟩
def sX12_pack_b77 (a0 : Nat) (x1 : Int) (K7 : Int → Int → MM → Option MM) (x2 : Int) (x3 : Int) (b90 : Nat) (x91 : Int) (x92 : Int) (M : MM) : Option MM := (if 0 ≤ wI x91 ∧ wI x91 < 8 then ((some (mU M b90 (wI x91).toNat x92)).bind fun M_2 => ((some (x3 + 1)).bind fun v_3 => (K7 x2 v_3 M_2))) else none)
def sX12_pack_b76 (a0 : Nat) (x1 : Int) (K7 : Int → Int → MM → Option MM) (x2 : Int) (x3 : Int) (b90 : Nat) (x91 : Int) (x92 : Int) (x93 : Int) (M : MM) : Option MM := (sX12_pack_b77 a0 x1 K7 x2 x3 b90 x91 (x92 + x93) M)
def sX12_pack_b45 (a0 : Nat) (x1 : Int) (K7 : Int → Int → MM → Option MM) (x2 : Int) (x3 : Int) (b90 : Nat) (x91 : Int) (M : MM) : Option MM := (if 0 ≤ wI x3 ∧ wI x3 < 8 then (sX12_pack_b77 a0 x1 K7 x2 x3 b90 x91 (M (gR a0 61) (wI x3).toNat) M) else none)
def sX12_pack_b29 (a0 : Nat) (x1 : Int) (K7 : Int → Int → MM → Option MM) (x2 : Int) (x3 : Int) (x90 : Int) (M : MM) : Option MM := (if wI x1 = 0 then (sX12_pack_b45 a0 x1 K7 x2 x3 (gR a0 62) x3 M) else (if wI x1 = 2 then (sX12_pack_b45 a0 x1 K7 x2 x3 (gR a0 62) x3 M) else (if wI (M a0 26) ≠ 0 then (if wI (M a0 26) ≠ 0 then (if wI (Int.tmod (wI x2) (wI (M a0 26))) ≤ wI x90 then (sX12_pack_b76 a0 x1 K7 x2 x3 (gR a0 62) x3 (Int.tdiv (wI x2) (wI (M a0 26))) 0 M) else (sX12_pack_b76 a0 x1 K7 x2 x3 (gR a0 62) x3 (Int.tdiv (wI x2) (wI (M a0 26))) 1 M)) else none) else none)))
def sX12_pack_b7 (a0 : Nat) (x1 : Int)  : Nat → Int → Int → MM → Option MM
  | 0, _, _, _ => none
  | n + 1, x2, x3, M => (if wI (M a0 26) ≤ wI x3 then (if wI x1 = 2 then ((sX12_thanks a0 M).bind fun q_3 => (some (q_3))) else (some (M))) else (if wI x1 = 1 then (sX12_pack_b29 a0 x1 (fun x2 x3 M => sX12_pack_b7 a0 x1 n x2 x3 M) x2 x3 x3 M) else ((sX12_younger a0 x3 M).bind fun q_5 => (sX12_pack_b29 a0 x1 (fun x2 x3 M => sX12_pack_b7 a0 x1 n x2 x3 M) x2 x3 q_5 M))))
def sX12_pack_b0 (a0 : Nat) (x1 : Int)   (M : MM) : Option MM := ((sX12_allFell a0 M).bind fun q_1 => (sX12_pack_b7 a0 x1 FU q_1 0 M))
def sX12_pack (a0 : Nat) (x1 : Int) (M : MM) : Option MM := sX12_pack_b0 a0 x1 M
set_option maxHeartbeats 4000000 in
set_option maxRecDepth 100000 in
theorem bX12_pack_b77 {G : GG} (a0 : Nat) (x1 : Int) (oa0 : OB L0 a0 12) {K7 : Int → Int → MM → Option MM} (x2 : Int) (x3 : Int) (b90 : Nat) (x91 : Int) (x92 : Int) (M : MM) {res : MM} (hK7 : ∀ (x2 : Int) (x3 : Int) (M : MM), K7 x2 x3 M = some res → VV G xX12_pack (ZM G xX12_pack (none) L0 res) L0 M 0 0 7 [(0, .ref (gA G a0)), (1, .int (eI x1)), (2, .int (eI x2)), (3, .int (eI x3))] []) (ob90 : AR L0 b90 1 8) (h : sX12_pack_b77 a0 x1 K7 x2 x3 b90 x91 x92 M = some res) : VV G xX12_pack (ZM G xX12_pack (none) L0 res) L0 M 0 0 77 [(0, .ref (gA G a0)), (1, .int (eI x1)), (2, .int (eI x2)), (3, .int (eI x3))] [.int (eI x92), .int (eI x91), .ref (gA G b90)] := by
  unfold sX12_pack_b77 at h
  obtain ⟨c_1, h⟩ := og h
  obtain ⟨M_2, hM_2, h⟩ := ob h
  refine r_iast (pc := 77) ob90 rfl c_1 rfl hM_2 dX12_pack_77 ?_
  obtain ⟨v_3, hv_3, h⟩ := ob h
  refine r_iinc (pc := 78) (y := v_3) (lv' := [(3, .int (eI v_3)), (0, .ref (gA G a0)), (1, .int (eI x1)), (2, .int (eI x2))]) dX12_pack_78 3 rfl (Option.some.inj hv_3) (Nat.le_of_ble_eq_true rfl) rfl ?_
  refine r_goto (pc := 81) (tgt := 7) dX12_pack_81 (by decide) ?_
  refine r_sub (lv' := [(0, .ref (gA G a0)), (1, .int (eI x1)), (2, .int (eI x2)), (3, .int (eI v_3))]) [1, 2, 3, 0] rfl ?_
  exact hK7 _ _ _ h
set_option maxHeartbeats 4000000 in
set_option maxRecDepth 100000 in
theorem bX12_pack_b76 {G : GG} (a0 : Nat) (x1 : Int) (oa0 : OB L0 a0 12) {K7 : Int → Int → MM → Option MM} (x2 : Int) (x3 : Int) (b90 : Nat) (x91 : Int) (x92 : Int) (x93 : Int) (M : MM) {res : MM} (hK7 : ∀ (x2 : Int) (x3 : Int) (M : MM), K7 x2 x3 M = some res → VV G xX12_pack (ZM G xX12_pack (none) L0 res) L0 M 0 0 7 [(0, .ref (gA G a0)), (1, .int (eI x1)), (2, .int (eI x2)), (3, .int (eI x3))] []) (ob90 : AR L0 b90 1 8) (h : sX12_pack_b76 a0 x1 K7 x2 x3 b90 x91 x92 x93 M = some res) : VV G xX12_pack (ZM G xX12_pack (none) L0 res) L0 M 0 0 76 [(0, .ref (gA G a0)), (1, .int (eI x1)), (2, .int (eI x2)), (3, .int (eI x3))] [.int (eI x93), .int (eI x92), .int (eI x91), .ref (gA G b90)] := by
  unfold sX12_pack_b76 at h
  refine r_iadd (pc := 76) dX12_pack_76 ?_
  refine r_sub (lv' := [(0, .ref (gA G a0)), (1, .int (eI x1)), (2, .int (eI x2)), (3, .int (eI x3))]) [0, 1, 2, 3] rfl ?_
  exact bX12_pack_b77 a0 x1 oa0 _ _ _ _ _ _ hK7 ob90 h
set_option maxHeartbeats 4000000 in
set_option maxRecDepth 100000 in
theorem bX12_pack_b45 {G : GG} (a0 : Nat) (x1 : Int) (oa0 : OB L0 a0 12) {K7 : Int → Int → MM → Option MM} (x2 : Int) (x3 : Int) (b90 : Nat) (x91 : Int) (M : MM) {res : MM} (hK7 : ∀ (x2 : Int) (x3 : Int) (M : MM), K7 x2 x3 M = some res → VV G xX12_pack (ZM G xX12_pack (none) L0 res) L0 M 0 0 7 [(0, .ref (gA G a0)), (1, .int (eI x1)), (2, .int (eI x2)), (3, .int (eI x3))] []) (ob90 : AR L0 b90 1 8) (h : sX12_pack_b45 a0 x1 K7 x2 x3 b90 x91 M = some res) : VV G xX12_pack (ZM G xX12_pack (none) L0 res) L0 M 0 0 45 [(0, .ref (gA G a0)), (1, .int (eI x1)), (2, .int (eI x2)), (3, .int (eI x3))] [.int (eI x91), .ref (gA G b90)] := by
  unfold sX12_pack_b45 at h
  refine r_aload_n (pc := 45) (i := 0) dX12_pack_45 rfl 0 rfl ?_
  have o_1 := (wt_12_61 oa0).2
  refine r_getR (pc := 46) fg_12_87 rfl oa0 (wt_12_61 oa0).1 dX12_pack_46 ?_
  refine r_iload_n (pc := 49) (i := 3) dX12_pack_49 rfl 3 rfl ?_
  obtain ⟨c_2, h⟩ := og h
  refine r_iald (pc := 50) o_1 rfl c_2 rfl dX12_pack_50 ?_
  refine r_goto (pc := 51) (tgt := 77) dX12_pack_51 (by decide) ?_
  refine r_sub (lv' := [(0, .ref (gA G a0)), (1, .int (eI x1)), (2, .int (eI x2)), (3, .int (eI x3))]) [0, 1, 2, 3] rfl ?_
  exact bX12_pack_b77 a0 x1 oa0 _ _ _ _ _ _ hK7 ob90 h
set_option maxHeartbeats 4000000 in
set_option maxRecDepth 100000 in
theorem bX12_pack_b29 {G : GG} (a0 : Nat) (x1 : Int) (oa0 : OB L0 a0 12) {K7 : Int → Int → MM → Option MM} (x2 : Int) (x3 : Int) (x90 : Int) (M : MM) {res : MM} (hK7 : ∀ (x2 : Int) (x3 : Int) (M : MM), K7 x2 x3 M = some res → VV G xX12_pack (ZM G xX12_pack (none) L0 res) L0 M 0 0 7 [(0, .ref (gA G a0)), (1, .int (eI x1)), (2, .int (eI x2)), (3, .int (eI x3))] [])  (h : sX12_pack_b29 a0 x1 K7 x2 x3 x90 M = some res) : VV G xX12_pack (ZM G xX12_pack (none) L0 res) L0 M 0 0 29 [(0, .ref (gA G a0)), (1, .int (eI x1)), (2, .int (eI x2)), (3, .int (eI x3))] [.int (eI x90)] := by
  unfold sX12_pack_b29 at h
  refine r_istore (pc := 29) (lv' := [(4, .int (eI x90)), (0, .ref (gA G a0)), (1, .int (eI x1)), (2, .int (eI x2)), (3, .int (eI x3))]) dX12_pack_29 (Nat.le_of_ble_eq_true rfl) rfl ?_
  refine r_aload_n (pc := 31) (i := 0) dX12_pack_31 rfl 1 rfl ?_
  have o_1 := (wt_12_62 oa0).2
  refine r_getR (pc := 32) fg_12_90 rfl oa0 (wt_12_62 oa0).1 dX12_pack_32 ?_
  refine r_iload_n (pc := 35) (i := 3) dX12_pack_35 rfl 4 rfl ?_
  refine r_iload_n (pc := 36) (i := 1) dX12_pack_36 rfl 2 rfl ?_
  refine r_if_eq (pc := 37) (tgt := 45) dX12_pack_37 (by decide) rfl (fun c_2 => ?_) (fun c_2 => ?_)
  · replace h := (if_pos c_2).symm.trans h
    refine r_sub (lv' := [(0, .ref (gA G a0)), (1, .int (eI x1)), (2, .int (eI x2)), (3, .int (eI x3))]) [1, 2, 3, 4] rfl ?_
    exact bX12_pack_b45 a0 x1 oa0 _ _ _ _ _ hK7 o_1 h
  · replace h := (if_neg c_2).symm.trans h
    refine r_iload_n (pc := 40) (i := 1) dX12_pack_40 rfl 2 rfl ?_
    refine r_iconst (pc := 41) (v := 2) dX12_pack_41 (by decide +kernel) ?_
    refine r_icmp_ne (pc := 42) (tgt := 54) dX12_pack_42 (by decide) rfl wl_2 (fun c_3 => ?_) (fun c_3 => ?_)
    · replace h := (if_neg c_3).symm.trans h
      refine r_iload_n (pc := 54) (i := 2) dX12_pack_54 rfl 3 rfl ?_
      refine r_aload_n (pc := 55) (i := 0) dX12_pack_55 rfl 1 rfl ?_
      refine r_getI (pc := 56) fg_12_319 rfl oa0 dX12_pack_56 ?_
      obtain ⟨c_4, h⟩ := og h
      refine r_idiv (pc := 59) dX12_pack_59 rfl rfl c_4 ?_
      refine r_iload (pc := 60) dX12_pack_60 0 rfl ?_
      refine r_iload_n (pc := 62) (i := 2) dX12_pack_62 rfl 3 rfl ?_
      refine r_aload_n (pc := 63) (i := 0) dX12_pack_63 rfl 1 rfl ?_
      refine r_getI (pc := 64) fg_12_319 rfl oa0 dX12_pack_64 ?_
      obtain ⟨c_5, h⟩ := og h
      refine r_irem (pc := 67) dX12_pack_67 rfl rfl c_5 ?_
      refine r_icmp_ge (pc := 68) (tgt := 75) dX12_pack_68 (by decide) rfl rfl (fun c_6 => ?_) (fun c_6 => ?_)
      · replace h := (if_pos c_6).symm.trans h
        refine r_iconst (pc := 75) (v := 0) dX12_pack_75 (by decide +kernel) ?_
        refine r_sub (lv' := [(0, .ref (gA G a0)), (1, .int (eI x1)), (2, .int (eI x2)), (3, .int (eI x3))]) [1, 2, 3, 4] rfl ?_
        exact bX12_pack_b76 a0 x1 oa0 _ _ _ _ _ _ _ hK7 o_1 h
      · replace h := (if_neg c_6).symm.trans h
        refine r_iconst (pc := 71) (v := 1) dX12_pack_71 (by decide +kernel) ?_
        refine r_goto (pc := 72) (tgt := 76) dX12_pack_72 (by decide) ?_
        refine r_sub (lv' := [(0, .ref (gA G a0)), (1, .int (eI x1)), (2, .int (eI x2)), (3, .int (eI x3))]) [1, 2, 3, 4] rfl ?_
        exact bX12_pack_b76 a0 x1 oa0 _ _ _ _ _ _ _ hK7 o_1 h
    · replace h := (if_pos c_3).symm.trans h
      refine r_sub (lv' := [(0, .ref (gA G a0)), (1, .int (eI x1)), (2, .int (eI x2)), (3, .int (eI x3))]) [1, 2, 3, 4] rfl ?_
      exact bX12_pack_b45 a0 x1 oa0 _ _ _ _ _ hK7 o_1 h
set_option maxHeartbeats 4000000 in
set_option maxRecDepth 100000 in
theorem bX12_pack_b7 {G : GG} (a0 : Nat) (x1 : Int) (oa0 : OB L0 a0 12) {res : MM} : ∀ (n : Nat) (x2 : Int) (x3 : Int) (M : MM)  (h : sX12_pack_b7 a0 x1 n x2 x3 M = some res), VV G xX12_pack (ZM G xX12_pack (none) L0 res) L0 M 0 0 7 [(0, .ref (gA G a0)), (1, .int (eI x1)), (2, .int (eI x2)), (3, .int (eI x3))] [] := by
  intro n
  induction n with
  | zero =>
    intro x2 x3 M h
    rw [sX12_pack_b7] at h
    cases h
  | succ n ih =>
    intro x2 x3 M h
    rw [sX12_pack_b7] at h
    refine r_iload_n (pc := 7) (i := 3) dX12_pack_7 rfl 3 rfl ?_
    refine r_aload_n (pc := 8) (i := 0) dX12_pack_8 rfl 0 rfl ?_
    refine r_getI (pc := 9) fg_12_319 rfl oa0 dX12_pack_9 ?_
    refine r_icmp_ge (pc := 12) (tgt := 84) dX12_pack_12 (by decide) rfl rfl (fun c_1 => ?_) (fun c_1 => ?_)
    · replace h := (if_pos c_1).symm.trans h
      refine r_iload_n (pc := 84) (i := 1) dX12_pack_84 rfl 1 rfl ?_
      refine r_iconst (pc := 85) (v := 2) dX12_pack_85 (by decide +kernel) ?_
      refine r_icmp_ne (pc := 86) (tgt := 93) dX12_pack_86 (by decide) rfl wl_2 (fun c_2 => ?_) (fun c_2 => ?_)
      · replace h := (if_neg c_2).symm.trans h
        cases h
        exact r_vret (pc := 93) rfl (Nat.le_refl 0) (Nat.le_refl 0) dX12_pack_93
      · replace h := (if_pos c_2).symm.trans h
        refine r_aload_n (pc := 89) (i := 0) dX12_pack_89 rfl 0 rfl ?_
        obtain ⟨q_3, hq_3, h⟩ := ob h
        refine r_cV (pc := 90) (Y := xX12_thanks) (As := []) (rest := []) (v := none) (st1 := []) ck_X12_pack_581 (kX12_thanks a0 M oa0 hq_3) oa0 rfl rfl rfl rfl (Nat.le_of_ble_eq_true rfl) ⟨rfl, rfl⟩ rfl dX12_pack_90 ?_
        cases h
        exact r_vret (pc := 93) rfl (Nat.le_refl 0) (Nat.le_refl 0) dX12_pack_93
    · replace h := (if_neg c_1).symm.trans h
      refine r_iload_n (pc := 15) (i := 1) dX12_pack_15 rfl 1 rfl ?_
      refine r_iconst (pc := 16) (v := 1) dX12_pack_16 (by decide +kernel) ?_
      refine r_icmp_ne (pc := 17) (tgt := 24) dX12_pack_17 (by decide) rfl wl_1 (fun c_4 => ?_) (fun c_4 => ?_)
      · replace h := (if_neg c_4).symm.trans h
        refine r_aload_n (pc := 24) (i := 0) dX12_pack_24 rfl 0 rfl ?_
        refine r_iload_n (pc := 25) (i := 3) dX12_pack_25 rfl 3 rfl ?_
        obtain ⟨q_5, hq_5, h⟩ := ob h
        refine r_cV (pc := 26) (Y := xX12_younger) (As := [.int (eI x3)]) (rest := []) (v := (some (.int (eI q_5)))) (st1 := [.int (eI q_5)]) ck_X12_pack_578 (kX12_younger a0 x3 M oa0 hq_5) oa0 rfl rfl rfl rfl (Nat.le_of_ble_eq_true rfl) ⟨rfl, rfl⟩ rfl dX12_pack_26 ?_
        refine r_sub (lv' := [(0, .ref (gA G a0)), (1, .int (eI x1)), (2, .int (eI x2)), (3, .int (eI x3))]) [0, 1, 2, 3] rfl ?_
        exact bX12_pack_b29 a0 x1 oa0 _ _ _ _ (fun v0 v1 v2 v3 => ih v0 v1 v2 v3) h
      · replace h := (if_pos c_4).symm.trans h
        refine r_iload_n (pc := 20) (i := 3) dX12_pack_20 rfl 3 rfl ?_
        refine r_goto (pc := 21) (tgt := 29) dX12_pack_21 (by decide) ?_
        refine r_sub (lv' := [(0, .ref (gA G a0)), (1, .int (eI x1)), (2, .int (eI x2)), (3, .int (eI x3))]) [0, 1, 2, 3] rfl ?_
        exact bX12_pack_b29 a0 x1 oa0 _ _ _ _ (fun v0 v1 v2 v3 => ih v0 v1 v2 v3) h
set_option maxHeartbeats 4000000 in
set_option maxRecDepth 100000 in
theorem bX12_pack_b0 {G : GG} (a0 : Nat) (x1 : Int) (oa0 : OB L0 a0 12)  (M : MM) {res : MM}  (h : sX12_pack_b0 a0 x1 M = some res) : VV G xX12_pack (ZM G xX12_pack (none) L0 res) L0 M 0 0 0 [(0, .ref (gA G a0)), (1, .int (eI x1))] [] := by
  unfold sX12_pack_b0 at h
  refine r_aload_n (pc := 0) (i := 0) dX12_pack_0 rfl 0 rfl ?_
  obtain ⟨q_1, hq_1, h⟩ := ob h
  refine r_cV (pc := 1) (Y := xX12_allFell) (As := []) (rest := []) (v := (some (.int (eI q_1)))) (st1 := [.int (eI q_1)]) ck_X12_pack_575 (kX12_allFell a0 M oa0 hq_1) oa0 rfl rfl rfl rfl (Nat.le_of_ble_eq_true rfl) ⟨rfl, rfl⟩ rfl dX12_pack_1 ?_
  refine r_istore_n (pc := 4) (i := 2) (lv' := [(2, .int (eI q_1)), (0, .ref (gA G a0)), (1, .int (eI x1))]) dX12_pack_4 rfl (Nat.le_of_ble_eq_true rfl) rfl ?_
  refine r_iconst (pc := 5) (v := 0) dX12_pack_5 (by decide +kernel) ?_
  refine r_istore_n (pc := 6) (i := 3) (lv' := [(3, .int (eI 0)), (2, .int (eI q_1)), (0, .ref (gA G a0)), (1, .int (eI x1))]) dX12_pack_6 rfl (Nat.le_of_ble_eq_true rfl) rfl ?_
  refine r_sub (lv' := [(0, .ref (gA G a0)), (1, .int (eI x1)), (2, .int (eI q_1)), (3, .int (eI 0))]) [2, 3, 1, 0] rfl ?_
  exact bX12_pack_b7 a0 x1 oa0 _ _ _ _ h
theorem kX12_pack {G : GG} (a0 : Nat) (x1 : Int) (M : MM) {res : MM} (oa0 : OB L0 a0 12) (h : sX12_pack a0 x1 M = some res) : CO G xX12_pack [.ref (gA G a0), .int (eI x1)] L0 M (none) L0 res := CO_of (by decide +kernel) (Nat.le_of_ble_eq_true rfl) (bX12_pack_b0 a0 x1 oa0 M h)
abbrev xX12_unevenBags : XX := (yX12_unevenBags, cX12_unevenBags, 5, (some .int), 4, 91, 0, 0)
theorem ck_X12_unevenBags_167 : CKS xX12_unevenBags 167 xX12_greater 2 := ⟨⟨tb_i 1700 (by decide +kernel) (by decide +kernel), tb_i 152 (by decide +kernel) (by decide +kernel), tb_i 1702 (by decide +kernel) (by decide +kernel), ⟨by decide +kernel, by decide +kernel, by decide +kernel⟩, by decide, by decide⟩, tb_i 1701 (by decide +kernel) (by decide +kernel)⟩
theorem ck_X12_unevenBags_381 : CKS xX12_unevenBags 381 xX12_lesser 2 := ⟨⟨tb_i 1857 (by decide +kernel) (by decide +kernel), tb_i 152 (by decide +kernel) (by decide +kernel), tb_i 1859 (by decide +kernel) (by decide +kernel), ⟨by decide +kernel, by decide +kernel, by decide +kernel⟩, by decide, by decide⟩, tb_i 1858 (by decide +kernel) (by decide +kernel)⟩
theorem ck_X12_unevenBags_584 : CKV xX12_unevenBags 584 xX12_pack 1 := ⟨⟨tb_i 2117 (by decide +kernel) (by decide +kernel), tb_i 152 (by decide +kernel) (by decide +kernel), tb_i 2120 (by decide +kernel) (by decide +kernel), ⟨by decide +kernel, by decide +kernel, by decide +kernel⟩, by decide, by decide⟩, tb_i 2119 (by decide +kernel) (by decide +kernel), tb_i 126 (by decide +kernel) (by decide +kernel)⟩
def sX12_unevenBags_b22 (a0 : Nat) (x1 : Int)  : Nat → Int → Int → Int → MM → Option (Int × MM)
  | 0, _, _, _, _ => none
  | n + 1, x2, x3, x4, M => (if wI (M a0 26) ≤ wI x4 then (some (((x3 - x2), M))) else (if 0 ≤ wI x4 ∧ wI x4 < 8 then ((some (sX12_lesser x2 (M (gR a0 62) (wI x4).toNat))).bind fun v_4 => (if 0 ≤ wI x4 ∧ wI x4 < 8 then ((some (sX12_greater x3 (M (gR a0 62) (wI x4).toNat))).bind fun v_7 => ((some (x4 + 1)).bind fun v_8 => (sX12_unevenBags_b22 a0 x1 n v_4 v_7 v_8 M))) else none)) else none))
def sX12_unevenBags_b0 (a0 : Nat) (x1 : Int)   (M : MM) : Option (Int × MM) := ((sX12_pack a0 x1 M).bind fun q_1 => (sX12_unevenBags_b22 a0 x1 FU (q_1 (gR a0 62) 0) (q_1 (gR a0 62) 0) 1 q_1))
def sX12_unevenBags (a0 : Nat) (x1 : Int) (M : MM) : Option (Int × MM) := sX12_unevenBags_b0 a0 x1 M
set_option maxHeartbeats 4000000 in
set_option maxRecDepth 100000 in
theorem bX12_unevenBags_b22 {G : GG} (a0 : Nat) (x1 : Int) (oa0 : OB L0 a0 12) {res : (Int × MM)} : ∀ (n : Nat) (x2 : Int) (x3 : Int) (x4 : Int) (M : MM)  (h : sX12_unevenBags_b22 a0 x1 n x2 x3 x4 M = some res), VV G xX12_unevenBags (ZM G xX12_unevenBags (some (.int (eI res.1))) L0 res.2) L0 M 0 0 22 [(0, .ref (gA G a0)), (2, .int (eI x2)), (3, .int (eI x3)), (4, .int (eI x4))] [] := by
  intro n
  induction n with
  | zero =>
    intro x2 x3 x4 M h
    rw [sX12_unevenBags_b22] at h
    cases h
  | succ n ih =>
    intro x2 x3 x4 M h
    rw [sX12_unevenBags_b22] at h
    refine r_iload (pc := 22) dX12_unevenBags_22 3 rfl ?_
    refine r_aload_n (pc := 24) (i := 0) dX12_unevenBags_24 rfl 0 rfl ?_
    refine r_getI (pc := 25) fg_12_319 rfl oa0 dX12_unevenBags_25 ?_
    refine r_icmp_ge (pc := 28) (tgt := 61) dX12_unevenBags_28 (by decide) rfl rfl (fun c_1 => ?_) (fun c_1 => ?_)
    · replace h := (if_pos c_1).symm.trans h
      refine r_iload_n (pc := 61) (i := 3) dX12_unevenBags_61 rfl 2 rfl ?_
      refine r_iload_n (pc := 62) (i := 2) dX12_unevenBags_62 rfl 1 rfl ?_
      refine r_isub (pc := 63) dX12_unevenBags_63 ?_
      cases h
      exact r_iret (pc := 64) rfl rfl (Nat.le_refl 0) (Nat.le_refl 0) dX12_unevenBags_64
    · replace h := (if_neg c_1).symm.trans h
      refine r_iload_n (pc := 31) (i := 2) dX12_unevenBags_31 rfl 1 rfl ?_
      refine r_aload_n (pc := 32) (i := 0) dX12_unevenBags_32 rfl 0 rfl ?_
      have o_2 := (wt_12_62 oa0).2
      refine r_getR (pc := 33) fg_12_90 rfl oa0 (wt_12_62 oa0).1 dX12_unevenBags_33 ?_
      refine r_iload (pc := 36) dX12_unevenBags_36 3 rfl ?_
      obtain ⟨c_3, h⟩ := og h
      refine r_iald (pc := 38) o_2 rfl c_3 rfl dX12_unevenBags_38 ?_
      refine r_cS (pc := 39) (Y := xX12_lesser) (As := [.int (eI x2), .int (eI (M (gR a0 62) (wI x4).toNat))]) (rest := []) (v := (some (.int (eI (sX12_lesser x2 (M (gR a0 62) (wI x4).toNat)))))) (st1 := [.int (eI (sX12_lesser x2 (M (gR a0 62) (wI x4).toNat)))]) ck_X12_unevenBags_381 (kX12_lesser x2 (M (gR a0 62) (wI x4).toNat) M ) rfl rfl (Nat.le_of_ble_eq_true rfl) ⟨rfl, rfl⟩ rfl dX12_unevenBags_39 ?_
      obtain ⟨v_4, hv_4, h⟩ := ob h
      refine r_nmI (pc := 42) hv_4 ?_
      refine r_istore_n (pc := 42) (i := 2) (lv' := [(2, .int (eI v_4)), (0, .ref (gA G a0)), (3, .int (eI x3)), (4, .int (eI x4))]) dX12_unevenBags_42 rfl (Nat.le_of_ble_eq_true rfl) rfl ?_
      refine r_iload_n (pc := 43) (i := 3) dX12_unevenBags_43 rfl 2 rfl ?_
      refine r_aload_n (pc := 44) (i := 0) dX12_unevenBags_44 rfl 1 rfl ?_
      have o_5 := (wt_12_62 oa0).2
      refine r_getR (pc := 45) fg_12_90 rfl oa0 (wt_12_62 oa0).1 dX12_unevenBags_45 ?_
      refine r_iload (pc := 48) dX12_unevenBags_48 3 rfl ?_
      obtain ⟨c_6, h⟩ := og h
      refine r_iald (pc := 50) o_5 rfl c_6 rfl dX12_unevenBags_50 ?_
      refine r_cS (pc := 51) (Y := xX12_greater) (As := [.int (eI x3), .int (eI (M (gR a0 62) (wI x4).toNat))]) (rest := []) (v := (some (.int (eI (sX12_greater x3 (M (gR a0 62) (wI x4).toNat)))))) (st1 := [.int (eI (sX12_greater x3 (M (gR a0 62) (wI x4).toNat)))]) ck_X12_unevenBags_167 (kX12_greater x3 (M (gR a0 62) (wI x4).toNat) M ) rfl rfl (Nat.le_of_ble_eq_true rfl) ⟨rfl, rfl⟩ rfl dX12_unevenBags_51 ?_
      obtain ⟨v_7, hv_7, h⟩ := ob h
      refine r_nmI (pc := 54) hv_7 ?_
      refine r_istore_n (pc := 54) (i := 3) (lv' := [(3, .int (eI v_7)), (2, .int (eI v_4)), (0, .ref (gA G a0)), (4, .int (eI x4))]) dX12_unevenBags_54 rfl (Nat.le_of_ble_eq_true rfl) rfl ?_
      obtain ⟨v_8, hv_8, h⟩ := ob h
      refine r_iinc (pc := 55) (y := v_8) (lv' := [(4, .int (eI v_8)), (3, .int (eI v_7)), (2, .int (eI v_4)), (0, .ref (gA G a0))]) dX12_unevenBags_55 3 rfl (Option.some.inj hv_8) (Nat.le_of_ble_eq_true rfl) rfl ?_
      refine r_goto (pc := 58) (tgt := 22) dX12_unevenBags_58 (by decide) ?_
      refine r_sub (lv' := [(0, .ref (gA G a0)), (2, .int (eI v_4)), (3, .int (eI v_7)), (4, .int (eI v_8))]) [3, 2, 1, 0] rfl ?_
      exact ih _ _ _ _ h
set_option maxHeartbeats 4000000 in
set_option maxRecDepth 100000 in
theorem bX12_unevenBags_b0 {G : GG} (a0 : Nat) (x1 : Int) (oa0 : OB L0 a0 12)  (M : MM) {res : (Int × MM)}  (h : sX12_unevenBags_b0 a0 x1 M = some res) : VV G xX12_unevenBags (ZM G xX12_unevenBags (some (.int (eI res.1))) L0 res.2) L0 M 0 0 0 [(0, .ref (gA G a0)), (1, .int (eI x1))] [] := by
  unfold sX12_unevenBags_b0 at h
  refine r_aload_n (pc := 0) (i := 0) dX12_unevenBags_0 rfl 0 rfl ?_
  refine r_iload_n (pc := 1) (i := 1) dX12_unevenBags_1 rfl 1 rfl ?_
  obtain ⟨q_1, hq_1, h⟩ := ob h
  refine r_cV (pc := 2) (Y := xX12_pack) (As := [.int (eI x1)]) (rest := []) (v := none) (st1 := []) ck_X12_unevenBags_584 (kX12_pack a0 x1 M oa0 hq_1) oa0 rfl rfl rfl rfl (Nat.le_of_ble_eq_true rfl) ⟨rfl, rfl⟩ rfl dX12_unevenBags_2 ?_
  refine r_aload_n (pc := 5) (i := 0) dX12_unevenBags_5 rfl 0 rfl ?_
  have o_2 := (wt_12_62 oa0).2
  refine r_getR (pc := 6) fg_12_90 rfl oa0 (wt_12_62 oa0).1 dX12_unevenBags_6 ?_
  refine r_iconst (pc := 9) (v := 0) dX12_unevenBags_9 (by decide +kernel) ?_
  refine r_iald (pc := 10) o_2 wl_0 ⟨by decide, by decide⟩ rfl dX12_unevenBags_10 ?_
  refine r_istore_n (pc := 11) (i := 2) (lv' := [(2, .int (eI (q_1 (gR a0 62) 0))), (0, .ref (gA G a0)), (1, .int (eI x1))]) dX12_unevenBags_11 rfl (Nat.le_of_ble_eq_true rfl) rfl ?_
  refine r_aload_n (pc := 12) (i := 0) dX12_unevenBags_12 rfl 1 rfl ?_
  have o_3 := (wt_12_62 oa0).2
  refine r_getR (pc := 13) fg_12_90 rfl oa0 (wt_12_62 oa0).1 dX12_unevenBags_13 ?_
  refine r_iconst (pc := 16) (v := 0) dX12_unevenBags_16 (by decide +kernel) ?_
  refine r_iald (pc := 17) o_3 wl_0 ⟨by decide, by decide⟩ rfl dX12_unevenBags_17 ?_
  refine r_istore_n (pc := 18) (i := 3) (lv' := [(3, .int (eI (q_1 (gR a0 62) 0))), (2, .int (eI (q_1 (gR a0 62) 0))), (0, .ref (gA G a0)), (1, .int (eI x1))]) dX12_unevenBags_18 rfl (Nat.le_of_ble_eq_true rfl) rfl ?_
  refine r_iconst (pc := 19) (v := 1) dX12_unevenBags_19 (by decide +kernel) ?_
  refine r_istore (pc := 20) (lv' := [(4, .int (eI 1)), (3, .int (eI (q_1 (gR a0 62) 0))), (2, .int (eI (q_1 (gR a0 62) 0))), (0, .ref (gA G a0)), (1, .int (eI x1))]) dX12_unevenBags_20 (Nat.le_of_ble_eq_true rfl) rfl ?_
  refine r_sub (lv' := [(0, .ref (gA G a0)), (2, .int (eI (q_1 (gR a0 62) 0))), (3, .int (eI (q_1 (gR a0 62) 0))), (4, .int (eI 1))]) [3, 2, 1, 0] rfl ?_
  exact bX12_unevenBags_b22 a0 x1 oa0 _ _ _ _ _ h
theorem kX12_unevenBags {G : GG} (a0 : Nat) (x1 : Int) (M : MM) {res : (Int × MM)} (oa0 : OB L0 a0 12) (h : sX12_unevenBags a0 x1 M = some res) : CO G xX12_unevenBags [.ref (gA G a0), .int (eI x1)] L0 M (some (.int (eI res.1))) L0 res.2 := CO_of (by decide +kernel) (Nat.le_of_ble_eq_true rfl) (bX12_unevenBags_b0 a0 x1 oa0 M h)
abbrev xX12_just : XX := (yX12_just, cX12_just, 3, (some .int), 5, 115, 0, 0)
theorem ck_X12_just_587 : CKV xX12_just 587 xX12_unevenBags 1 := ⟨⟨tb_i 2113 (by decide +kernel) (by decide +kernel), tb_i 152 (by decide +kernel) (by decide +kernel), tb_i 2116 (by decide +kernel) (by decide +kernel), ⟨by decide +kernel, by decide +kernel, by decide +kernel⟩, by decide, by decide⟩, tb_i 2115 (by decide +kernel) (by decide +kernel), tb_i 125 (by decide +kernel) (by decide +kernel)⟩
def sX12_just_b27 (a0 : Nat) (K4 : Int → Int → MM → Option (Int × MM)) (x2 : Int) (x90 : Int) (M : MM) : Option (Int × MM) := ((some (x2 + 1)).bind fun v_1 => (K4 x90 v_1 M))
def sX12_just_b4 (a0 : Nat)  : Nat → Int → Int → MM → Option (Int × MM)
  | 0, _, _, _ => none
  | n + 1, x1, x2, M => (if 4 ≤ wI x2 then (some ((x1, M))) else ((sX12_unevenBags a0 x2 M).bind fun q_2 => ((sX12_unevenBags a0 x1 q_2.2).bind fun q_3 => (if wI (q_3.1) ≤ wI (q_2.1) then (sX12_just_b27 a0 (fun x1 x2 M => sX12_just_b4 a0 n x1 x2 M) x2 x1 q_3.2) else (sX12_just_b27 a0 (fun x1 x2 M => sX12_just_b4 a0 n x1 x2 M) x2 x2 q_3.2)))))
def sX12_just_b0 (a0 : Nat)   (M : MM) : Option (Int × MM) := (sX12_just_b4 a0 FU 0 1 M)
def sX12_just (a0 : Nat) (M : MM) : Option (Int × MM) := sX12_just_b0 a0 M
set_option maxHeartbeats 4000000 in
set_option maxRecDepth 100000 in
theorem bX12_just_b27 {G : GG} (a0 : Nat) (oa0 : OB L0 a0 12) {K4 : Int → Int → MM → Option (Int × MM)} (x2 : Int) (x90 : Int) (M : MM) {res : (Int × MM)} (hK4 : ∀ (x1 : Int) (x2 : Int) (M : MM), K4 x1 x2 M = some res → VV G xX12_just (ZM G xX12_just (some (.int (eI res.1))) L0 res.2) L0 M 0 0 4 [(0, .ref (gA G a0)), (1, .int (eI x1)), (2, .int (eI x2))] [])  (h : sX12_just_b27 a0 K4 x2 x90 M = some res) : VV G xX12_just (ZM G xX12_just (some (.int (eI res.1))) L0 res.2) L0 M 0 0 27 [(0, .ref (gA G a0)), (2, .int (eI x2))] [.int (eI x90)] := by
  unfold sX12_just_b27 at h
  refine r_istore_n (pc := 27) (i := 1) (lv' := [(1, .int (eI x90)), (0, .ref (gA G a0)), (2, .int (eI x2))]) dX12_just_27 rfl (Nat.le_of_ble_eq_true rfl) rfl ?_
  obtain ⟨v_1, hv_1, h⟩ := ob h
  refine r_iinc (pc := 28) (y := v_1) (lv' := [(2, .int (eI v_1)), (1, .int (eI x90)), (0, .ref (gA G a0))]) dX12_just_28 2 rfl (Option.some.inj hv_1) (Nat.le_of_ble_eq_true rfl) rfl ?_
  refine r_goto (pc := 31) (tgt := 4) dX12_just_31 (by decide) ?_
  refine r_sub (lv' := [(0, .ref (gA G a0)), (1, .int (eI x90)), (2, .int (eI v_1))]) [2, 1, 0] rfl ?_
  exact hK4 _ _ _ h
set_option maxHeartbeats 4000000 in
set_option maxRecDepth 100000 in
theorem bX12_just_b4 {G : GG} (a0 : Nat) (oa0 : OB L0 a0 12) {res : (Int × MM)} : ∀ (n : Nat) (x1 : Int) (x2 : Int) (M : MM)  (h : sX12_just_b4 a0 n x1 x2 M = some res), VV G xX12_just (ZM G xX12_just (some (.int (eI res.1))) L0 res.2) L0 M 0 0 4 [(0, .ref (gA G a0)), (1, .int (eI x1)), (2, .int (eI x2))] [] := by
  intro n
  induction n with
  | zero =>
    intro x1 x2 M h
    rw [sX12_just_b4] at h
    cases h
  | succ n ih =>
    intro x1 x2 M h
    rw [sX12_just_b4] at h
    refine r_iload_n (pc := 4) (i := 2) dX12_just_4 rfl 2 rfl ?_
    refine r_iconst (pc := 5) (v := 4) dX12_just_5 (by decide +kernel) ?_
    refine r_icmp_ge (pc := 6) (tgt := 34) dX12_just_6 (by decide) rfl wl_4 (fun c_1 => ?_) (fun c_1 => ?_)
    · replace h := (if_pos c_1).symm.trans h
      refine r_iload_n (pc := 34) (i := 1) dX12_just_34 rfl 1 rfl ?_
      cases h
      exact r_iret (pc := 35) rfl rfl (Nat.le_refl 0) (Nat.le_refl 0) dX12_just_35
    · replace h := (if_neg c_1).symm.trans h
      refine r_aload_n (pc := 9) (i := 0) dX12_just_9 rfl 0 rfl ?_
      refine r_iload_n (pc := 10) (i := 2) dX12_just_10 rfl 2 rfl ?_
      obtain ⟨q_2, hq_2, h⟩ := ob h
      refine r_cV (pc := 11) (Y := xX12_unevenBags) (As := [.int (eI x2)]) (rest := []) (v := (some (.int (eI (q_2.1))))) (st1 := [.int (eI (q_2.1))]) ck_X12_just_587 (kX12_unevenBags a0 x2 M oa0 hq_2) oa0 rfl rfl rfl rfl (Nat.le_of_ble_eq_true rfl) ⟨rfl, rfl⟩ rfl dX12_just_11 ?_
      refine r_aload_n (pc := 14) (i := 0) dX12_just_14 rfl 0 rfl ?_
      refine r_iload_n (pc := 15) (i := 1) dX12_just_15 rfl 1 rfl ?_
      obtain ⟨q_3, hq_3, h⟩ := ob h
      refine r_cV (pc := 16) (Y := xX12_unevenBags) (As := [.int (eI x1)]) (rest := [.int (eI (q_2.1))]) (v := (some (.int (eI (q_3.1))))) (st1 := [.int (eI (q_3.1)), .int (eI (q_2.1))]) ck_X12_just_587 (kX12_unevenBags a0 x1 q_2.2 oa0 hq_3) oa0 rfl rfl rfl rfl (Nat.le_of_ble_eq_true rfl) ⟨rfl, rfl⟩ rfl dX12_just_16 ?_
      refine r_icmp_ge (pc := 19) (tgt := 26) dX12_just_19 (by decide) rfl rfl (fun c_4 => ?_) (fun c_4 => ?_)
      · replace h := (if_pos c_4).symm.trans h
        refine r_iload_n (pc := 26) (i := 1) dX12_just_26 rfl 1 rfl ?_
        refine r_sub (lv' := [(0, .ref (gA G a0)), (2, .int (eI x2))]) [0, 2] rfl ?_
        exact bX12_just_b27 a0 oa0 _ _ _ (fun v0 v1 v2 v3 => ih v0 v1 v2 v3) h
      · replace h := (if_neg c_4).symm.trans h
        refine r_iload_n (pc := 22) (i := 2) dX12_just_22 rfl 2 rfl ?_
        refine r_goto (pc := 23) (tgt := 27) dX12_just_23 (by decide) ?_
        refine r_sub (lv' := [(0, .ref (gA G a0)), (2, .int (eI x2))]) [0, 2] rfl ?_
        exact bX12_just_b27 a0 oa0 _ _ _ (fun v0 v1 v2 v3 => ih v0 v1 v2 v3) h
set_option maxHeartbeats 4000000 in
set_option maxRecDepth 100000 in
theorem bX12_just_b0 {G : GG} (a0 : Nat) (oa0 : OB L0 a0 12)  (M : MM) {res : (Int × MM)}  (h : sX12_just_b0 a0 M = some res) : VV G xX12_just (ZM G xX12_just (some (.int (eI res.1))) L0 res.2) L0 M 0 0 0 [(0, .ref (gA G a0))] [] := by
  unfold sX12_just_b0 at h
  refine r_iconst (pc := 0) (v := 0) dX12_just_0 (by decide +kernel) ?_
  refine r_istore_n (pc := 1) (i := 1) (lv' := [(1, .int (eI 0)), (0, .ref (gA G a0))]) dX12_just_1 rfl (Nat.le_of_ble_eq_true rfl) rfl ?_
  refine r_iconst (pc := 2) (v := 1) dX12_just_2 (by decide +kernel) ?_
  refine r_istore_n (pc := 3) (i := 2) (lv' := [(2, .int (eI 1)), (1, .int (eI 0)), (0, .ref (gA G a0))]) dX12_just_3 rfl (Nat.le_of_ble_eq_true rfl) rfl ?_
  refine r_sub (lv' := [(0, .ref (gA G a0)), (1, .int (eI 0)), (2, .int (eI 1))]) [2, 1, 0] rfl ?_
  exact bX12_just_b4 a0 oa0 _ _ _ _ h
theorem kX12_just {G : GG} (a0 : Nat) (M : MM) {res : (Int × MM)} (oa0 : OB L0 a0 12) (h : sX12_just a0 M = some res) : CO G xX12_just [.ref (gA G a0)] L0 M (some (.int (eI res.1))) L0 res.2 := CO_of (by decide +kernel) (Nat.le_of_ble_eq_true rfl) (bX12_just_b0 a0 oa0 M h)
abbrev xX12_bag : XX := (yX12_bag, cX12_bag, 7, (some .int), 6, 137, 0, 0)
theorem ck_X12_bag_105 : CKS xX12_bag 105 xX12_in 3 := ⟨⟨tb_i 1622 (by decide +kernel) (by decide +kernel), tb_i 152 (by decide +kernel) (by decide +kernel), tb_i 1624 (by decide +kernel) (by decide +kernel), ⟨by decide +kernel, by decide +kernel, by decide +kernel⟩, by decide, by decide⟩, tb_i 1623 (by decide +kernel) (by decide +kernel)⟩
theorem ck_X12_bag_331 : CKV xX12_bag 331 xX12_isChild 1 := ⟨⟨tb_i 1792 (by decide +kernel) (by decide +kernel), tb_i 152 (by decide +kernel) (by decide +kernel), tb_i 1795 (by decide +kernel) (by decide +kernel), ⟨by decide +kernel, by decide +kernel, by decide +kernel⟩, by decide, by decide⟩, tb_i 1794 (by decide +kernel) (by decide +kernel), tb_i 74 (by decide +kernel) (by decide +kernel)⟩
theorem ck_X12_bag_533 : CKV xX12_bag 533 xX12_layStriker 2 := ⟨⟨tb_i 2020 (by decide +kernel) (by decide +kernel), tb_i 152 (by decide +kernel) (by decide +kernel), tb_i 2023 (by decide +kernel) (by decide +kernel), ⟨by decide +kernel, by decide +kernel, by decide +kernel⟩, by decide, by decide⟩, tb_i 2022 (by decide +kernel) (by decide +kernel), tb_i 110 (by decide +kernel) (by decide +kernel)⟩
theorem ck_X12_bag_572 : CKV xX12_bag 572 xX12_hasGround 1 := ⟨⟨tb_i 2085 (by decide +kernel) (by decide +kernel), tb_i 152 (by decide +kernel) (by decide +kernel), tb_i 2088 (by decide +kernel) (by decide +kernel), ⟨by decide +kernel, by decide +kernel, by decide +kernel⟩, by decide, by decide⟩, tb_i 2087 (by decide +kernel) (by decide +kernel), tb_i 119 (by decide +kernel) (by decide +kernel)⟩
theorem ck_X12_bag_587 : CKV xX12_bag 587 xX12_unevenBags 1 := ⟨⟨tb_i 2113 (by decide +kernel) (by decide +kernel), tb_i 152 (by decide +kernel) (by decide +kernel), tb_i 2116 (by decide +kernel) (by decide +kernel), ⟨by decide +kernel, by decide +kernel, by decide +kernel⟩, by decide, by decide⟩, tb_i 2115 (by decide +kernel) (by decide +kernel), tb_i 125 (by decide +kernel) (by decide +kernel)⟩
theorem ck_X12_bag_590 : CKV xX12_bag 590 xX12_pickUp 0 := ⟨⟨tb_i 2105 (by decide +kernel) (by decide +kernel), tb_i 152 (by decide +kernel) (by decide +kernel), tb_i 2108 (by decide +kernel) (by decide +kernel), ⟨by decide +kernel, by decide +kernel, by decide +kernel⟩, by decide, by decide⟩, tb_i 2107 (by decide +kernel) (by decide +kernel), tb_i 123 (by decide +kernel) (by decide +kernel)⟩
theorem ck_X12_bag_593 : CKV xX12_bag 593 xX12_just 0 := ⟨⟨tb_i 2109 (by decide +kernel) (by decide +kernel), tb_i 152 (by decide +kernel) (by decide +kernel), tb_i 2112 (by decide +kernel) (by decide +kernel), ⟨by decide +kernel, by decide +kernel, by decide +kernel⟩, by decide, by decide⟩, tb_i 2111 (by decide +kernel) (by decide +kernel), tb_i 124 (by decide +kernel) (by decide +kernel)⟩
def sX12_bag_b55 (a0 : Nat) (x1 : Int) (x2 : Int) (x3 : Int) (x4 : Int) (x5 : Int)   (M : MM) : Option (Int × MM) := ((sX12_pickUp a0 M).bind fun q_1 => (if wI x4 = (-1) then ((sX12_just a0 q_1).bind fun q_7 => (some (((q_7.1), q_7.2)))) else ((sX12_unevenBags a0 x4 q_1).bind fun q_3 => (if wI x5 = (-1) then (some (((q_3.1), q_3.2))) else (if 0 ≤ wI x5 ∧ wI x5 < 8 then (some (((q_3.2 (gR a0 62) (wI x5).toNat), q_3.2))) else none)))))
def sX12_bag_b0 (a0 : Nat) (x1 : Int) (x2 : Int) (x3 : Int) (x4 : Int) (x5 : Int)   (M : MM) : Option (Int × MM) := ((some (mU M a0 0 0)).bind fun M_1 => ((sX12_hasGround a0 x2 M_1).bind fun q_2 => (if wI (q_2.1) = 0 then (some (((-1), q_2.2))) else ((sX12_layStriker a0 x1 x3 q_2.2).bind fun q_4 => (if wI (q_4.1) = 0 then (some (((-1), q_4.2))) else (if wI (sX12_in x4 (-1) 3) = 0 then (some (((-1), q_4.2))) else (if wI x5 = (-1) then (sX12_bag_b55 a0 x1 x2 x3 x4 x5 q_4.2) else ((sX12_isChild a0 x5 q_4.2).bind fun q_8 => (if wI q_8 = 0 then (some (((-1), q_4.2))) else (if wI x4 = (-1) then (some (((-1), q_4.2))) else (sX12_bag_b55 a0 x1 x2 x3 x4 x5 q_4.2)))))))))))
def sX12_bag (a0 : Nat) (x1 : Int) (x2 : Int) (x3 : Int) (x4 : Int) (x5 : Int) (M : MM) : Option (Int × MM) := sX12_bag_b0 a0 x1 x2 x3 x4 x5 M
set_option maxHeartbeats 4000000 in
set_option maxRecDepth 100000 in
theorem bX12_bag_b55 {G : GG} (a0 : Nat) (x1 : Int) (x2 : Int) (x3 : Int) (x4 : Int) (x5 : Int) (oa0 : OB L0 a0 12)  (M : MM) {res : (Int × MM)}  (h : sX12_bag_b55 a0 x1 x2 x3 x4 x5 M = some res) : VV G xX12_bag (ZM G xX12_bag (some (.int (eI res.1))) L0 res.2) L0 M 0 0 55 [(0, .ref (gA G a0)), (4, .int (eI x4)), (5, .int (eI x5))] [] := by
  unfold sX12_bag_b55 at h
  refine r_aload_n (pc := 55) (i := 0) dX12_bag_55 rfl 0 rfl ?_
  obtain ⟨q_1, hq_1, h⟩ := ob h
  refine r_cV (pc := 56) (Y := xX12_pickUp) (As := []) (rest := []) (v := none) (st1 := []) ck_X12_bag_590 (kX12_pickUp a0 M oa0 hq_1) oa0 rfl rfl rfl rfl (Nat.le_of_ble_eq_true rfl) ⟨rfl, rfl⟩ rfl dX12_bag_56 ?_
  refine r_iload (pc := 59) dX12_bag_59 1 rfl ?_
  refine r_iconst (pc := 61) (v := (-1)) dX12_bag_61 (by decide +kernel) ?_
  refine r_icmp_ne (pc := 62) (tgt := 70) dX12_bag_62 (by decide) rfl wl_m1 (fun c_2 => ?_) (fun c_2 => ?_)
  · replace h := (if_neg c_2).symm.trans h
    refine r_aload_n (pc := 70) (i := 0) dX12_bag_70 rfl 0 rfl ?_
    refine r_iload (pc := 71) dX12_bag_71 1 rfl ?_
    obtain ⟨q_3, hq_3, h⟩ := ob h
    refine r_cV (pc := 73) (Y := xX12_unevenBags) (As := [.int (eI x4)]) (rest := []) (v := (some (.int (eI (q_3.1))))) (st1 := [.int (eI (q_3.1))]) ck_X12_bag_587 (kX12_unevenBags a0 x4 q_1 oa0 hq_3) oa0 rfl rfl rfl rfl (Nat.le_of_ble_eq_true rfl) ⟨rfl, rfl⟩ rfl dX12_bag_73 ?_
    refine r_istore (pc := 76) (lv' := [(6, .int (eI (q_3.1))), (0, .ref (gA G a0)), (4, .int (eI x4)), (5, .int (eI x5))]) dX12_bag_76 (Nat.le_of_ble_eq_true rfl) rfl ?_
    refine r_iload (pc := 78) dX12_bag_78 3 rfl ?_
    refine r_iconst (pc := 80) (v := (-1)) dX12_bag_80 (by decide +kernel) ?_
    refine r_icmp_ne (pc := 81) (tgt := 89) dX12_bag_81 (by decide) rfl wl_m1 (fun c_4 => ?_) (fun c_4 => ?_)
    · replace h := (if_neg c_4).symm.trans h
      refine r_aload_n (pc := 89) (i := 0) dX12_bag_89 rfl 1 rfl ?_
      have o_5 := (wt_12_62 oa0).2
      refine r_getR (pc := 90) fg_12_90 rfl oa0 (wt_12_62 oa0).1 dX12_bag_90 ?_
      refine r_iload (pc := 93) dX12_bag_93 3 rfl ?_
      obtain ⟨c_6, h⟩ := og h
      refine r_iald (pc := 95) o_5 rfl c_6 rfl dX12_bag_95 ?_
      cases h
      exact r_iret (pc := 96) rfl rfl (Nat.le_refl 0) (Nat.le_refl 0) dX12_bag_96
    · replace h := (if_pos c_4).symm.trans h
      refine r_iload (pc := 84) dX12_bag_84 0 rfl ?_
      refine r_goto (pc := 86) (tgt := 96) dX12_bag_86 (by decide) ?_
      cases h
      exact r_iret (pc := 96) rfl rfl (Nat.le_refl 0) (Nat.le_refl 0) dX12_bag_96
  · replace h := (if_pos c_2).symm.trans h
    refine r_aload_n (pc := 65) (i := 0) dX12_bag_65 rfl 0 rfl ?_
    obtain ⟨q_7, hq_7, h⟩ := ob h
    refine r_cV (pc := 66) (Y := xX12_just) (As := []) (rest := []) (v := (some (.int (eI (q_7.1))))) (st1 := [.int (eI (q_7.1))]) ck_X12_bag_593 (kX12_just a0 q_1 oa0 hq_7) oa0 rfl rfl rfl rfl (Nat.le_of_ble_eq_true rfl) ⟨rfl, rfl⟩ rfl dX12_bag_66 ?_
    cases h
    exact r_iret (pc := 69) rfl rfl (Nat.le_refl 0) (Nat.le_refl 0) dX12_bag_69
set_option maxHeartbeats 4000000 in
set_option maxRecDepth 100000 in
theorem bX12_bag_b0 {G : GG} (a0 : Nat) (x1 : Int) (x2 : Int) (x3 : Int) (x4 : Int) (x5 : Int) (oa0 : OB L0 a0 12)  (M : MM) {res : (Int × MM)}  (h : sX12_bag_b0 a0 x1 x2 x3 x4 x5 M = some res) : VV G xX12_bag (ZM G xX12_bag (some (.int (eI res.1))) L0 res.2) L0 M 0 0 0 [(0, .ref (gA G a0)), (1, .int (eI x1)), (2, .int (eI x2)), (3, .int (eI x3)), (4, .int (eI x4)), (5, .int (eI x5))] [] := by
  unfold sX12_bag_b0 at h
  refine r_aload_n (pc := 0) (i := 0) dX12_bag_0 rfl 0 rfl ?_
  refine r_iconst (pc := 1) (v := 0) dX12_bag_1 (by decide +kernel) ?_
  obtain ⟨M_1, hM_1, h⟩ := ob h
  refine r_putI (pc := 2) fg_12_97 rfl oa0 hM_1 rfl rfl dX12_bag_2 ?_
  refine r_aload_n (pc := 5) (i := 0) dX12_bag_5 rfl 0 rfl ?_
  refine r_iload_n (pc := 6) (i := 2) dX12_bag_6 rfl 2 rfl ?_
  obtain ⟨q_2, hq_2, h⟩ := ob h
  refine r_cV (pc := 7) (Y := xX12_hasGround) (As := [.int (eI x2)]) (rest := []) (v := (some (.int (eI (q_2.1))))) (st1 := [.int (eI (q_2.1))]) ck_X12_bag_572 (kX12_hasGround a0 x2 M_1 oa0 hq_2) oa0 rfl rfl rfl rfl (Nat.le_of_ble_eq_true rfl) ⟨rfl, rfl⟩ rfl dX12_bag_7 ?_
  refine r_if_eq (pc := 10) (tgt := 53) dX12_bag_10 (by decide) rfl (fun c_3 => ?_) (fun c_3 => ?_)
  · replace h := (if_pos c_3).symm.trans h
    refine r_iconst (pc := 53) (v := (-1)) dX12_bag_53 (by decide +kernel) ?_
    cases h
    exact r_iret (pc := 54) rfl rfl (Nat.le_refl 0) (Nat.le_refl 0) dX12_bag_54
  · replace h := (if_neg c_3).symm.trans h
    refine r_aload_n (pc := 13) (i := 0) dX12_bag_13 rfl 0 rfl ?_
    refine r_iload_n (pc := 14) (i := 1) dX12_bag_14 rfl 1 rfl ?_
    refine r_iload_n (pc := 15) (i := 3) dX12_bag_15 rfl 3 rfl ?_
    obtain ⟨q_4, hq_4, h⟩ := ob h
    refine r_cV (pc := 16) (Y := xX12_layStriker) (As := [.int (eI x1), .int (eI x3)]) (rest := []) (v := (some (.int (eI (q_4.1))))) (st1 := [.int (eI (q_4.1))]) ck_X12_bag_533 (kX12_layStriker a0 x1 x3 q_2.2 oa0 hq_4) oa0 rfl rfl rfl rfl (Nat.le_of_ble_eq_true rfl) ⟨rfl, rfl⟩ rfl dX12_bag_16 ?_
    refine r_if_eq (pc := 19) (tgt := 53) dX12_bag_19 (by decide) rfl (fun c_5 => ?_) (fun c_5 => ?_)
    · replace h := (if_pos c_5).symm.trans h
      refine r_iconst (pc := 53) (v := (-1)) dX12_bag_53 (by decide +kernel) ?_
      cases h
      exact r_iret (pc := 54) rfl rfl (Nat.le_refl 0) (Nat.le_refl 0) dX12_bag_54
    · replace h := (if_neg c_5).symm.trans h
      refine r_iload (pc := 22) dX12_bag_22 4 rfl ?_
      refine r_iconst (pc := 24) (v := (-1)) dX12_bag_24 (by decide +kernel) ?_
      refine r_iconst (pc := 25) (v := 3) dX12_bag_25 (by decide +kernel) ?_
      refine r_cS (pc := 26) (Y := xX12_in) (As := [.int (eI x4), .int (eI (-1)), .int (eI 3)]) (rest := []) (v := (some (.int (eI (sX12_in x4 (-1) 3))))) (st1 := [.int (eI (sX12_in x4 (-1) 3))]) ck_X12_bag_105 (kX12_in x4 (-1) 3 q_4.2 ) rfl rfl (Nat.le_of_ble_eq_true rfl) ⟨rfl, rfl⟩ rfl dX12_bag_26 ?_
      refine r_if_eq (pc := 29) (tgt := 53) dX12_bag_29 (by decide) rfl (fun c_6 => ?_) (fun c_6 => ?_)
      · replace h := (if_pos c_6).symm.trans h
        refine r_iconst (pc := 53) (v := (-1)) dX12_bag_53 (by decide +kernel) ?_
        cases h
        exact r_iret (pc := 54) rfl rfl (Nat.le_refl 0) (Nat.le_refl 0) dX12_bag_54
      · replace h := (if_neg c_6).symm.trans h
        refine r_iload (pc := 32) dX12_bag_32 5 rfl ?_
        refine r_iconst (pc := 34) (v := (-1)) dX12_bag_34 (by decide +kernel) ?_
        refine r_icmp_eq (pc := 35) (tgt := 55) dX12_bag_35 (by decide) rfl wl_m1 (fun c_7 => ?_) (fun c_7 => ?_)
        · replace h := (if_pos c_7).symm.trans h
          refine r_sub (lv' := [(0, .ref (gA G a0)), (4, .int (eI x4)), (5, .int (eI x5))]) [0, 4, 5] rfl ?_
          exact bX12_bag_b55 a0 x1 x2 x3 x4 x5 oa0 _ h
        · replace h := (if_neg c_7).symm.trans h
          refine r_aload_n (pc := 38) (i := 0) dX12_bag_38 rfl 0 rfl ?_
          refine r_iload (pc := 39) dX12_bag_39 5 rfl ?_
          obtain ⟨q_8, hq_8, h⟩ := ob h
          refine r_cV (pc := 41) (Y := xX12_isChild) (As := [.int (eI x5)]) (rest := []) (v := (some (.int (eI q_8)))) (st1 := [.int (eI q_8)]) ck_X12_bag_331 (kX12_isChild a0 x5 q_4.2 oa0 hq_8) oa0 rfl rfl rfl rfl (Nat.le_of_ble_eq_true rfl) ⟨rfl, rfl⟩ rfl dX12_bag_41 ?_
          refine r_if_eq (pc := 44) (tgt := 53) dX12_bag_44 (by decide) rfl (fun c_9 => ?_) (fun c_9 => ?_)
          · replace h := (if_pos c_9).symm.trans h
            refine r_iconst (pc := 53) (v := (-1)) dX12_bag_53 (by decide +kernel) ?_
            cases h
            exact r_iret (pc := 54) rfl rfl (Nat.le_refl 0) (Nat.le_refl 0) dX12_bag_54
          · replace h := (if_neg c_9).symm.trans h
            refine r_iload (pc := 47) dX12_bag_47 4 rfl ?_
            refine r_iconst (pc := 49) (v := (-1)) dX12_bag_49 (by decide +kernel) ?_
            refine r_icmp_ne (pc := 50) (tgt := 55) dX12_bag_50 (by decide) rfl wl_m1 (fun c_10 => ?_) (fun c_10 => ?_)
            · replace h := (if_neg c_10).symm.trans h
              refine r_sub (lv' := [(0, .ref (gA G a0)), (4, .int (eI x4)), (5, .int (eI x5))]) [0, 4, 5] rfl ?_
              exact bX12_bag_b55 a0 x1 x2 x3 x4 x5 oa0 _ h
            · replace h := (if_pos c_10).symm.trans h
              refine r_iconst (pc := 53) (v := (-1)) dX12_bag_53 (by decide +kernel) ?_
              cases h
              exact r_iret (pc := 54) rfl rfl (Nat.le_refl 0) (Nat.le_refl 0) dX12_bag_54
theorem kX12_bag {G : GG} (a0 : Nat) (x1 : Int) (x2 : Int) (x3 : Int) (x4 : Int) (x5 : Int) (M : MM) {res : (Int × MM)} (oa0 : OB L0 a0 12) (h : sX12_bag a0 x1 x2 x3 x4 x5 M = some res) : CO G xX12_bag [.ref (gA G a0), .int (eI x1), .int (eI x2), .int (eI x3), .int (eI x4), .int (eI x5)] L0 M (some (.int (eI res.1))) L0 res.2 := CO_of (by decide +kernel) (Nat.le_of_ble_eq_true rfl) (bX12_bag_b0 a0 x1 x2 x3 x4 x5 oa0 M h)
abbrev xX12_ofRecord : XX := (yX12_ofRecord, cX12_ofRecord, 2, (some .int), 0, 0, 0, 0)
def sX12_ofRecord_b0 (a0 : Nat) (x1 : Int) (M : MM)   : Option Int := (if 0 ≤ wI ((97 * (M a0 63)) + x1) ∧ wI ((97 * (M a0 63)) + x1) < 776 then (some ((M (gR a0 10) (wI ((97 * (M a0 63)) + x1)).toNat))) else none)
def sX12_ofRecord (a0 : Nat) (x1 : Int) (M : MM) : Option Int := sX12_ofRecord_b0 a0 x1 M
set_option maxHeartbeats 4000000 in
set_option maxRecDepth 100000 in
theorem bX12_ofRecord_b0 {G : GG} (a0 : Nat) (x1 : Int) (M : MM) (oa0 : OB L0 a0 12)  {res : Int}  (h : sX12_ofRecord_b0 a0 x1 M = some res) : VV G xX12_ofRecord (ZM G xX12_ofRecord (some (.int (eI res))) L0 M) L0 M 0 0 0 [(0, .ref (gA G a0)), (1, .int (eI x1))] [] := by
  unfold sX12_ofRecord_b0 at h
  refine r_aload_n (pc := 0) (i := 0) dX12_ofRecord_0 rfl 0 rfl ?_
  have o_1 := (wt_12_10 oa0).2
  refine r_getR (pc := 1) fg_12_38 rfl oa0 (wt_12_10 oa0).1 dX12_ofRecord_1 ?_
  refine r_bipush (pc := 4) (v := 97) dX12_ofRecord_4 (by decide +kernel) ?_
  refine r_aload_n (pc := 6) (i := 0) dX12_ofRecord_6 rfl 0 rfl ?_
  refine r_getI (pc := 7) fg_12_596 rfl oa0 dX12_ofRecord_7 ?_
  refine r_imul (pc := 10) dX12_ofRecord_10 ?_
  refine r_iload_n (pc := 11) (i := 1) dX12_ofRecord_11 rfl 1 rfl ?_
  refine r_iadd (pc := 12) dX12_ofRecord_12 ?_
  obtain ⟨c_2, h⟩ := og h
  refine r_iald (pc := 13) o_1 rfl c_2 rfl dX12_ofRecord_13 ?_
  cases h
  exact r_iret (pc := 14) rfl rfl (Nat.le_refl 0) (Nat.le_refl 0) dX12_ofRecord_14
theorem kX12_ofRecord {G : GG} (a0 : Nat) (x1 : Int) (M : MM) {res : Int} (oa0 : OB L0 a0 12) (h : sX12_ofRecord a0 x1 M = some res) : CO G xX12_ofRecord [.ref (gA G a0), .int (eI x1)] L0 M (some (.int (eI res))) L0 M := CO_of (by decide +kernel) (Nat.le_of_ble_eq_true rfl) (bX12_ofRecord_b0 a0 x1 M oa0 h)
abbrev xX12_hasRecord : XX := (yX12_hasRecord, cX12_hasRecord, 2, (some .boolean), 2, 44, 0, 0)
theorem ck_X12_hasRecord_301 : CKV xX12_hasRecord 301 xX12_is 2 := ⟨⟨tb_i 1629 (by decide +kernel) (by decide +kernel), tb_i 152 (by decide +kernel) (by decide +kernel), tb_i 1632 (by decide +kernel) (by decide +kernel), ⟨by decide +kernel, by decide +kernel, by decide +kernel⟩, by decide, by decide⟩, tb_i 1631 (by decide +kernel) (by decide +kernel), tb_i 47 (by decide +kernel) (by decide +kernel)⟩
def sX12_hasRecord_b0 (a0 : Nat) (x1 : Int)   (M : MM) : Option (Int × MM) := ((some (mU M a0 63 x1)).bind fun M_1 => ((sX12_is a0 4 x1 M_1).bind fun q_2 => (if q_2 = 0 ∨ q_2 = 1 then (some ((q_2, M_1))) else none)))
def sX12_hasRecord (a0 : Nat) (x1 : Int) (M : MM) : Option (Int × MM) := sX12_hasRecord_b0 a0 x1 M
set_option maxHeartbeats 4000000 in
set_option maxRecDepth 100000 in
theorem bX12_hasRecord_b0 {G : GG} (a0 : Nat) (x1 : Int) (oa0 : OB L0 a0 12)  (M : MM) {res : (Int × MM)}  (h : sX12_hasRecord_b0 a0 x1 M = some res) : VV G xX12_hasRecord (ZM G xX12_hasRecord (some (.int (eI res.1))) L0 res.2) L0 M 0 0 0 [(0, .ref (gA G a0)), (1, .int (eI x1))] [] := by
  unfold sX12_hasRecord_b0 at h
  refine r_aload_n (pc := 0) (i := 0) dX12_hasRecord_0 rfl 0 rfl ?_
  refine r_iload_n (pc := 1) (i := 1) dX12_hasRecord_1 rfl 1 rfl ?_
  obtain ⟨M_1, hM_1, h⟩ := ob h
  refine r_putI (pc := 2) fg_12_596 rfl oa0 hM_1 rfl rfl dX12_hasRecord_2 ?_
  refine r_aload_n (pc := 5) (i := 0) dX12_hasRecord_5 rfl 0 rfl ?_
  refine r_iconst (pc := 6) (v := 4) dX12_hasRecord_6 (by decide +kernel) ?_
  refine r_iload_n (pc := 7) (i := 1) dX12_hasRecord_7 rfl 1 rfl ?_
  obtain ⟨q_2, hq_2, h⟩ := ob h
  refine r_cV (pc := 8) (Y := xX12_is) (As := [.int (eI 4), .int (eI x1)]) (rest := []) (v := (some (.int (eI q_2)))) (st1 := [.int (eI q_2)]) ck_X12_hasRecord_301 (kX12_is a0 4 x1 M_1 oa0 hq_2) oa0 rfl rfl rfl rfl (Nat.le_of_ble_eq_true rfl) ⟨rfl, rfl⟩ rfl dX12_hasRecord_8 ?_
  obtain ⟨c_3, h⟩ := og h
  cases h
  exact r_iret (pc := 11) rfl (zn_ok c_3).1 (Nat.le_refl 0) (Nat.le_refl 0) dX12_hasRecord_11
theorem kX12_hasRecord {G : GG} (a0 : Nat) (x1 : Int) (M : MM) {res : (Int × MM)} (oa0 : OB L0 a0 12) (h : sX12_hasRecord a0 x1 M = some res) : CO G xX12_hasRecord [.ref (gA G a0), .int (eI x1)] L0 M (some (.int (eI res.1))) L0 res.2 := CO_of (by decide +kernel) (Nat.le_of_ble_eq_true rfl) (bX12_hasRecord_b0 a0 x1 oa0 M h)
abbrev xX12_hits : XX := (yX12_hits, cX12_hits, 3, (some .int), 1, 21, 0, 0)
theorem ck_X12_hits_599 : CKV xX12_hits 599 xX12_ofRecord 1 := ⟨⟨tb_i 2137 (by decide +kernel) (by decide +kernel), tb_i 152 (by decide +kernel) (by decide +kernel), tb_i 2140 (by decide +kernel) (by decide +kernel), ⟨by decide +kernel, by decide +kernel, by decide +kernel⟩, by decide, by decide⟩, tb_i 2139 (by decide +kernel) (by decide +kernel), tb_i 130 (by decide +kernel) (by decide +kernel)⟩
def sX12_hits_b4 (a0 : Nat) (M : MM)  : Nat → Int → Int → Option Int
  | 0, _, _ => none
  | n + 1, x1, x2 => ((sX12_ofRecord a0 1 M).bind fun q_1 => (if wI q_1 ≤ wI x2 then (some (x1)) else ((sX12_ofRecord a0 (82 + x2) M).bind fun q_3 => ((some (x2 + 1)).bind fun v_4 => (sX12_hits_b4 a0 M n (x1 + q_3) v_4)))))
def sX12_hits_b0 (a0 : Nat) (M : MM)   : Option Int := (sX12_hits_b4 a0 M FU 0 0)
def sX12_hits (a0 : Nat) (M : MM) : Option Int := sX12_hits_b0 a0 M
set_option maxHeartbeats 4000000 in
set_option maxRecDepth 100000 in
theorem bX12_hits_b4 {G : GG} (a0 : Nat) (M : MM) (oa0 : OB L0 a0 12) {res : Int} : ∀ (n : Nat) (x1 : Int) (x2 : Int)  (h : sX12_hits_b4 a0 M n x1 x2 = some res), VV G xX12_hits (ZM G xX12_hits (some (.int (eI res))) L0 M) L0 M 0 0 4 [(0, .ref (gA G a0)), (1, .int (eI x1)), (2, .int (eI x2))] [] := by
  intro n
  induction n with
  | zero =>
    intro x1 x2 h
    rw [sX12_hits_b4] at h
    cases h
  | succ n ih =>
    intro x1 x2 h
    rw [sX12_hits_b4] at h
    refine r_iload_n (pc := 4) (i := 2) dX12_hits_4 rfl 2 rfl ?_
    refine r_aload_n (pc := 5) (i := 0) dX12_hits_5 rfl 0 rfl ?_
    refine r_iconst (pc := 6) (v := 1) dX12_hits_6 (by decide +kernel) ?_
    obtain ⟨q_1, hq_1, h⟩ := ob h
    refine r_cV (pc := 7) (Y := xX12_ofRecord) (As := [.int (eI 1)]) (rest := [.int (eI x2)]) (v := (some (.int (eI q_1)))) (st1 := [.int (eI q_1), .int (eI x2)]) ck_X12_hits_599 (kX12_ofRecord a0 1 M oa0 hq_1) oa0 rfl rfl rfl rfl (Nat.le_of_ble_eq_true rfl) ⟨rfl, rfl⟩ rfl dX12_hits_7 ?_
    refine r_icmp_ge (pc := 10) (tgt := 30) dX12_hits_10 (by decide) rfl rfl (fun c_2 => ?_) (fun c_2 => ?_)
    · replace h := (if_pos c_2).symm.trans h
      refine r_iload_n (pc := 30) (i := 1) dX12_hits_30 rfl 1 rfl ?_
      cases h
      exact r_iret (pc := 31) rfl rfl (Nat.le_refl 0) (Nat.le_refl 0) dX12_hits_31
    · replace h := (if_neg c_2).symm.trans h
      refine r_iload_n (pc := 13) (i := 1) dX12_hits_13 rfl 1 rfl ?_
      refine r_aload_n (pc := 14) (i := 0) dX12_hits_14 rfl 0 rfl ?_
      refine r_bipush (pc := 15) (v := 82) dX12_hits_15 (by decide +kernel) ?_
      refine r_iload_n (pc := 17) (i := 2) dX12_hits_17 rfl 2 rfl ?_
      refine r_iadd (pc := 18) dX12_hits_18 ?_
      obtain ⟨q_3, hq_3, h⟩ := ob h
      refine r_cV (pc := 19) (Y := xX12_ofRecord) (As := [.int (eI (82 + x2))]) (rest := [.int (eI x1)]) (v := (some (.int (eI q_3)))) (st1 := [.int (eI q_3), .int (eI x1)]) ck_X12_hits_599 (kX12_ofRecord a0 (82 + x2) M oa0 hq_3) oa0 rfl rfl rfl rfl (Nat.le_of_ble_eq_true rfl) ⟨rfl, rfl⟩ rfl dX12_hits_19 ?_
      refine r_iadd (pc := 22) dX12_hits_22 ?_
      refine r_istore_n (pc := 23) (i := 1) (lv' := [(1, .int (eI (x1 + q_3))), (0, .ref (gA G a0)), (2, .int (eI x2))]) dX12_hits_23 rfl (Nat.le_of_ble_eq_true rfl) rfl ?_
      obtain ⟨v_4, hv_4, h⟩ := ob h
      refine r_iinc (pc := 24) (y := v_4) (lv' := [(2, .int (eI v_4)), (1, .int (eI (x1 + q_3))), (0, .ref (gA G a0))]) dX12_hits_24 2 rfl (Option.some.inj hv_4) (Nat.le_of_ble_eq_true rfl) rfl ?_
      refine r_goto (pc := 27) (tgt := 4) dX12_hits_27 (by decide) ?_
      refine r_sub (lv' := [(0, .ref (gA G a0)), (1, .int (eI (x1 + q_3))), (2, .int (eI v_4))]) [2, 1, 0] rfl ?_
      exact ih _ _ h
set_option maxHeartbeats 4000000 in
set_option maxRecDepth 100000 in
theorem bX12_hits_b0 {G : GG} (a0 : Nat) (M : MM) (oa0 : OB L0 a0 12)  {res : Int}  (h : sX12_hits_b0 a0 M = some res) : VV G xX12_hits (ZM G xX12_hits (some (.int (eI res))) L0 M) L0 M 0 0 0 [(0, .ref (gA G a0))] [] := by
  unfold sX12_hits_b0 at h
  refine r_iconst (pc := 0) (v := 0) dX12_hits_0 (by decide +kernel) ?_
  refine r_istore_n (pc := 1) (i := 1) (lv' := [(1, .int (eI 0)), (0, .ref (gA G a0))]) dX12_hits_1 rfl (Nat.le_of_ble_eq_true rfl) rfl ?_
  refine r_iconst (pc := 2) (v := 0) dX12_hits_2 (by decide +kernel) ?_
  refine r_istore_n (pc := 3) (i := 2) (lv' := [(2, .int (eI 0)), (1, .int (eI 0)), (0, .ref (gA G a0))]) dX12_hits_3 rfl (Nat.le_of_ble_eq_true rfl) rfl ?_
  refine r_sub (lv' := [(0, .ref (gA G a0)), (1, .int (eI 0)), (2, .int (eI 0))]) [2, 1, 0] rfl ?_
  exact bX12_hits_b4 a0 M oa0 _ _ _ h
theorem kX12_hits {G : GG} (a0 : Nat) (M : MM) {res : Int} (oa0 : OB L0 a0 12) (h : sX12_hits a0 M = some res) : CO G xX12_hits [.ref (gA G a0)] L0 M (some (.int (eI res))) L0 M := CO_of (by decide +kernel) (Nat.le_of_ble_eq_true rfl) (bX12_hits_b0 a0 M oa0 h)
abbrev xX12_shoutsOf : XX := (yX12_shoutsOf, cX12_shoutsOf, 5, (some .int), 1, 21, 0, 0)
theorem ck_X12_shoutsOf_599 : CKV xX12_shoutsOf 599 xX12_ofRecord 1 := ⟨⟨tb_i 2137 (by decide +kernel) (by decide +kernel), tb_i 152 (by decide +kernel) (by decide +kernel), tb_i 2140 (by decide +kernel) (by decide +kernel), ⟨by decide +kernel, by decide +kernel, by decide +kernel⟩, by decide, by decide⟩, tb_i 2139 (by decide +kernel) (by decide +kernel), tb_i 130 (by decide +kernel) (by decide +kernel)⟩
def sX12_shoutsOf_b55 (a0 : Nat) (x1 : Int) (x2 : Int) (M : MM) (K5 : Int → Int → Option Int) (x4 : Int) (x90 : Int) (x91 : Int) : Option Int := ((some (x4 + 1)).bind fun v_1 => (K5 (x90 + x91) v_1))
def sX12_shoutsOf_b54 (a0 : Nat) (x1 : Int) (x2 : Int) (M : MM) (K5 : Int → Int → Option Int) (x4 : Int) (x90 : Int) : Option Int := (sX12_shoutsOf_b55 a0 x1 x2 M K5 x4 x90 0)
def sX12_shoutsOf_b50 (a0 : Nat) (x1 : Int) (x2 : Int) (M : MM) (K5 : Int → Int → Option Int) (x4 : Int) (x90 : Int) : Option Int := (sX12_shoutsOf_b55 a0 x1 x2 M K5 x4 x90 1)
def sX12_shoutsOf_b5 (a0 : Nat) (x1 : Int) (x2 : Int) (M : MM)  : Nat → Int → Int → Option Int
  | 0, _, _ => none
  | n + 1, x3, x4 => ((sX12_ofRecord a0 0 M).bind fun q_1 => (if wI q_1 ≤ wI x4 then (some (x3)) else ((sX12_ofRecord a0 (2 + (2 * x4)) M).bind fun q_3 => (if wI q_3 = wI x1 then (if wI x2 = 0 then (sX12_shoutsOf_b50 a0 x1 x2 M (fun x3 x4 => sX12_shoutsOf_b5 a0 x1 x2 M n x3 x4) x4 x3) else ((sX12_ofRecord a0 ((2 + (2 * x4)) + 1) M).bind fun q_6 => (if wI q_6 = 1 then (sX12_shoutsOf_b50 a0 x1 x2 M (fun x3 x4 => sX12_shoutsOf_b5 a0 x1 x2 M n x3 x4) x4 x3) else (sX12_shoutsOf_b54 a0 x1 x2 M (fun x3 x4 => sX12_shoutsOf_b5 a0 x1 x2 M n x3 x4) x4 x3)))) else (sX12_shoutsOf_b54 a0 x1 x2 M (fun x3 x4 => sX12_shoutsOf_b5 a0 x1 x2 M n x3 x4) x4 x3)))))
def sX12_shoutsOf_b0 (a0 : Nat) (x1 : Int) (x2 : Int) (M : MM)   : Option Int := (sX12_shoutsOf_b5 a0 x1 x2 M FU 0 0)
def sX12_shoutsOf (a0 : Nat) (x1 : Int) (x2 : Int) (M : MM) : Option Int := sX12_shoutsOf_b0 a0 x1 x2 M
set_option maxHeartbeats 4000000 in
set_option maxRecDepth 100000 in
theorem bX12_shoutsOf_b55 {G : GG} (a0 : Nat) (x1 : Int) (x2 : Int) (M : MM) (oa0 : OB L0 a0 12) {K5 : Int → Int → Option Int} (x4 : Int) (x90 : Int) (x91 : Int) {res : Int} (hK5 : ∀ (x3 : Int) (x4 : Int), K5 x3 x4 = some res → VV G xX12_shoutsOf (ZM G xX12_shoutsOf (some (.int (eI res))) L0 M) L0 M 0 0 5 [(0, .ref (gA G a0)), (1, .int (eI x1)), (2, .int (eI x2)), (3, .int (eI x3)), (4, .int (eI x4))] [])  (h : sX12_shoutsOf_b55 a0 x1 x2 M K5 x4 x90 x91 = some res) : VV G xX12_shoutsOf (ZM G xX12_shoutsOf (some (.int (eI res))) L0 M) L0 M 0 0 55 [(0, .ref (gA G a0)), (1, .int (eI x1)), (2, .int (eI x2)), (4, .int (eI x4))] [.int (eI x91), .int (eI x90)] := by
  unfold sX12_shoutsOf_b55 at h
  refine r_iadd (pc := 55) dX12_shoutsOf_55 ?_
  refine r_istore_n (pc := 56) (i := 3) (lv' := [(3, .int (eI (x90 + x91))), (0, .ref (gA G a0)), (1, .int (eI x1)), (2, .int (eI x2)), (4, .int (eI x4))]) dX12_shoutsOf_56 rfl (Nat.le_of_ble_eq_true rfl) rfl ?_
  obtain ⟨v_1, hv_1, h⟩ := ob h
  refine r_iinc (pc := 57) (y := v_1) (lv' := [(4, .int (eI v_1)), (3, .int (eI (x90 + x91))), (0, .ref (gA G a0)), (1, .int (eI x1)), (2, .int (eI x2))]) dX12_shoutsOf_57 4 rfl (Option.some.inj hv_1) (Nat.le_of_ble_eq_true rfl) rfl ?_
  refine r_goto (pc := 60) (tgt := 5) dX12_shoutsOf_60 (by decide) ?_
  refine r_sub (lv' := [(0, .ref (gA G a0)), (1, .int (eI x1)), (2, .int (eI x2)), (3, .int (eI (x90 + x91))), (4, .int (eI v_1))]) [2, 3, 4, 1, 0] rfl ?_
  exact hK5 _ _ h
set_option maxHeartbeats 4000000 in
set_option maxRecDepth 100000 in
theorem bX12_shoutsOf_b54 {G : GG} (a0 : Nat) (x1 : Int) (x2 : Int) (M : MM) (oa0 : OB L0 a0 12) {K5 : Int → Int → Option Int} (x4 : Int) (x90 : Int) {res : Int} (hK5 : ∀ (x3 : Int) (x4 : Int), K5 x3 x4 = some res → VV G xX12_shoutsOf (ZM G xX12_shoutsOf (some (.int (eI res))) L0 M) L0 M 0 0 5 [(0, .ref (gA G a0)), (1, .int (eI x1)), (2, .int (eI x2)), (3, .int (eI x3)), (4, .int (eI x4))] [])  (h : sX12_shoutsOf_b54 a0 x1 x2 M K5 x4 x90 = some res) : VV G xX12_shoutsOf (ZM G xX12_shoutsOf (some (.int (eI res))) L0 M) L0 M 0 0 54 [(0, .ref (gA G a0)), (1, .int (eI x1)), (2, .int (eI x2)), (4, .int (eI x4))] [.int (eI x90)] := by
  unfold sX12_shoutsOf_b54 at h
  refine r_iconst (pc := 54) (v := 0) dX12_shoutsOf_54 (by decide +kernel) ?_
  refine r_sub (lv' := [(0, .ref (gA G a0)), (1, .int (eI x1)), (2, .int (eI x2)), (4, .int (eI x4))]) [0, 1, 2, 3] rfl ?_
  exact bX12_shoutsOf_b55 a0 x1 x2 M oa0 _ _ _ hK5 h
set_option maxHeartbeats 4000000 in
set_option maxRecDepth 100000 in
theorem bX12_shoutsOf_b50 {G : GG} (a0 : Nat) (x1 : Int) (x2 : Int) (M : MM) (oa0 : OB L0 a0 12) {K5 : Int → Int → Option Int} (x4 : Int) (x90 : Int) {res : Int} (hK5 : ∀ (x3 : Int) (x4 : Int), K5 x3 x4 = some res → VV G xX12_shoutsOf (ZM G xX12_shoutsOf (some (.int (eI res))) L0 M) L0 M 0 0 5 [(0, .ref (gA G a0)), (1, .int (eI x1)), (2, .int (eI x2)), (3, .int (eI x3)), (4, .int (eI x4))] [])  (h : sX12_shoutsOf_b50 a0 x1 x2 M K5 x4 x90 = some res) : VV G xX12_shoutsOf (ZM G xX12_shoutsOf (some (.int (eI res))) L0 M) L0 M 0 0 50 [(0, .ref (gA G a0)), (1, .int (eI x1)), (2, .int (eI x2)), (4, .int (eI x4))] [.int (eI x90)] := by
  unfold sX12_shoutsOf_b50 at h
  refine r_iconst (pc := 50) (v := 1) dX12_shoutsOf_50 (by decide +kernel) ?_
  refine r_goto (pc := 51) (tgt := 55) dX12_shoutsOf_51 (by decide) ?_
  refine r_sub (lv' := [(0, .ref (gA G a0)), (1, .int (eI x1)), (2, .int (eI x2)), (4, .int (eI x4))]) [0, 1, 2, 3] rfl ?_
  exact bX12_shoutsOf_b55 a0 x1 x2 M oa0 _ _ _ hK5 h
set_option maxHeartbeats 4000000 in
set_option maxRecDepth 100000 in
theorem bX12_shoutsOf_b5 {G : GG} (a0 : Nat) (x1 : Int) (x2 : Int) (M : MM) (oa0 : OB L0 a0 12) {res : Int} : ∀ (n : Nat) (x3 : Int) (x4 : Int)  (h : sX12_shoutsOf_b5 a0 x1 x2 M n x3 x4 = some res), VV G xX12_shoutsOf (ZM G xX12_shoutsOf (some (.int (eI res))) L0 M) L0 M 0 0 5 [(0, .ref (gA G a0)), (1, .int (eI x1)), (2, .int (eI x2)), (3, .int (eI x3)), (4, .int (eI x4))] [] := by
  intro n
  induction n with
  | zero =>
    intro x3 x4 h
    rw [sX12_shoutsOf_b5] at h
    cases h
  | succ n ih =>
    intro x3 x4 h
    rw [sX12_shoutsOf_b5] at h
    refine r_iload (pc := 5) dX12_shoutsOf_5 4 rfl ?_
    refine r_aload_n (pc := 7) (i := 0) dX12_shoutsOf_7 rfl 0 rfl ?_
    refine r_iconst (pc := 8) (v := 0) dX12_shoutsOf_8 (by decide +kernel) ?_
    obtain ⟨q_1, hq_1, h⟩ := ob h
    refine r_cV (pc := 9) (Y := xX12_ofRecord) (As := [.int (eI 0)]) (rest := [.int (eI x4)]) (v := (some (.int (eI q_1)))) (st1 := [.int (eI q_1), .int (eI x4)]) ck_X12_shoutsOf_599 (kX12_ofRecord a0 0 M oa0 hq_1) oa0 rfl rfl rfl rfl (Nat.le_of_ble_eq_true rfl) ⟨rfl, rfl⟩ rfl dX12_shoutsOf_9 ?_
    refine r_icmp_ge (pc := 12) (tgt := 63) dX12_shoutsOf_12 (by decide) rfl rfl (fun c_2 => ?_) (fun c_2 => ?_)
    · replace h := (if_pos c_2).symm.trans h
      refine r_iload_n (pc := 63) (i := 3) dX12_shoutsOf_63 rfl 3 rfl ?_
      cases h
      exact r_iret (pc := 64) rfl rfl (Nat.le_refl 0) (Nat.le_refl 0) dX12_shoutsOf_64
    · replace h := (if_neg c_2).symm.trans h
      refine r_iload_n (pc := 15) (i := 3) dX12_shoutsOf_15 rfl 3 rfl ?_
      refine r_aload_n (pc := 16) (i := 0) dX12_shoutsOf_16 rfl 0 rfl ?_
      refine r_iconst (pc := 17) (v := 2) dX12_shoutsOf_17 (by decide +kernel) ?_
      refine r_iconst (pc := 18) (v := 2) dX12_shoutsOf_18 (by decide +kernel) ?_
      refine r_iload (pc := 19) dX12_shoutsOf_19 4 rfl ?_
      refine r_imul (pc := 21) dX12_shoutsOf_21 ?_
      refine r_iadd (pc := 22) dX12_shoutsOf_22 ?_
      obtain ⟨q_3, hq_3, h⟩ := ob h
      refine r_cV (pc := 23) (Y := xX12_ofRecord) (As := [.int (eI (2 + (2 * x4)))]) (rest := [.int (eI x3)]) (v := (some (.int (eI q_3)))) (st1 := [.int (eI q_3), .int (eI x3)]) ck_X12_shoutsOf_599 (kX12_ofRecord a0 (2 + (2 * x4)) M oa0 hq_3) oa0 rfl rfl rfl rfl (Nat.le_of_ble_eq_true rfl) ⟨rfl, rfl⟩ rfl dX12_shoutsOf_23 ?_
      refine r_iload_n (pc := 26) (i := 1) dX12_shoutsOf_26 rfl 1 rfl ?_
      refine r_icmp_ne (pc := 27) (tgt := 54) dX12_shoutsOf_27 (by decide) rfl rfl (fun c_4 => ?_) (fun c_4 => ?_)
      · replace h := (if_neg c_4).symm.trans h
        refine r_sub (lv' := [(0, .ref (gA G a0)), (1, .int (eI x1)), (2, .int (eI x2)), (4, .int (eI x4))]) [0, 1, 2, 4] rfl ?_
        exact bX12_shoutsOf_b54 a0 x1 x2 M oa0 _ _ (fun v0 v1 v2 => ih v0 v1 v2) h
      · replace h := (if_pos c_4).symm.trans h
        refine r_iload_n (pc := 30) (i := 2) dX12_shoutsOf_30 rfl 2 rfl ?_
        refine r_if_eq (pc := 31) (tgt := 50) dX12_shoutsOf_31 (by decide) rfl (fun c_5 => ?_) (fun c_5 => ?_)
        · replace h := (if_pos c_5).symm.trans h
          refine r_sub (lv' := [(0, .ref (gA G a0)), (1, .int (eI x1)), (2, .int (eI x2)), (4, .int (eI x4))]) [0, 1, 2, 4] rfl ?_
          exact bX12_shoutsOf_b50 a0 x1 x2 M oa0 _ _ (fun v0 v1 v2 => ih v0 v1 v2) h
        · replace h := (if_neg c_5).symm.trans h
          refine r_aload_n (pc := 34) (i := 0) dX12_shoutsOf_34 rfl 0 rfl ?_
          refine r_iconst (pc := 35) (v := 2) dX12_shoutsOf_35 (by decide +kernel) ?_
          refine r_iconst (pc := 36) (v := 2) dX12_shoutsOf_36 (by decide +kernel) ?_
          refine r_iload (pc := 37) dX12_shoutsOf_37 4 rfl ?_
          refine r_imul (pc := 39) dX12_shoutsOf_39 ?_
          refine r_iadd (pc := 40) dX12_shoutsOf_40 ?_
          refine r_iconst (pc := 41) (v := 1) dX12_shoutsOf_41 (by decide +kernel) ?_
          refine r_iadd (pc := 42) dX12_shoutsOf_42 ?_
          obtain ⟨q_6, hq_6, h⟩ := ob h
          refine r_cV (pc := 43) (Y := xX12_ofRecord) (As := [.int (eI ((2 + (2 * x4)) + 1))]) (rest := [.int (eI x3)]) (v := (some (.int (eI q_6)))) (st1 := [.int (eI q_6), .int (eI x3)]) ck_X12_shoutsOf_599 (kX12_ofRecord a0 ((2 + (2 * x4)) + 1) M oa0 hq_6) oa0 rfl rfl rfl rfl (Nat.le_of_ble_eq_true rfl) ⟨rfl, rfl⟩ rfl dX12_shoutsOf_43 ?_
          refine r_iconst (pc := 46) (v := 1) dX12_shoutsOf_46 (by decide +kernel) ?_
          refine r_icmp_ne (pc := 47) (tgt := 54) dX12_shoutsOf_47 (by decide) rfl wl_1 (fun c_7 => ?_) (fun c_7 => ?_)
          · replace h := (if_neg c_7).symm.trans h
            refine r_sub (lv' := [(0, .ref (gA G a0)), (1, .int (eI x1)), (2, .int (eI x2)), (4, .int (eI x4))]) [0, 1, 2, 4] rfl ?_
            exact bX12_shoutsOf_b54 a0 x1 x2 M oa0 _ _ (fun v0 v1 v2 => ih v0 v1 v2) h
          · replace h := (if_pos c_7).symm.trans h
            refine r_sub (lv' := [(0, .ref (gA G a0)), (1, .int (eI x1)), (2, .int (eI x2)), (4, .int (eI x4))]) [0, 1, 2, 4] rfl ?_
            exact bX12_shoutsOf_b50 a0 x1 x2 M oa0 _ _ (fun v0 v1 v2 => ih v0 v1 v2) h
set_option maxHeartbeats 4000000 in
set_option maxRecDepth 100000 in
theorem bX12_shoutsOf_b0 {G : GG} (a0 : Nat) (x1 : Int) (x2 : Int) (M : MM) (oa0 : OB L0 a0 12)  {res : Int}  (h : sX12_shoutsOf_b0 a0 x1 x2 M = some res) : VV G xX12_shoutsOf (ZM G xX12_shoutsOf (some (.int (eI res))) L0 M) L0 M 0 0 0 [(0, .ref (gA G a0)), (1, .int (eI x1)), (2, .int (eI x2))] [] := by
  unfold sX12_shoutsOf_b0 at h
  refine r_iconst (pc := 0) (v := 0) dX12_shoutsOf_0 (by decide +kernel) ?_
  refine r_istore_n (pc := 1) (i := 3) (lv' := [(3, .int (eI 0)), (0, .ref (gA G a0)), (1, .int (eI x1)), (2, .int (eI x2))]) dX12_shoutsOf_1 rfl (Nat.le_of_ble_eq_true rfl) rfl ?_
  refine r_iconst (pc := 2) (v := 0) dX12_shoutsOf_2 (by decide +kernel) ?_
  refine r_istore (pc := 3) (lv' := [(4, .int (eI 0)), (3, .int (eI 0)), (0, .ref (gA G a0)), (1, .int (eI x1)), (2, .int (eI x2))]) dX12_shoutsOf_3 (Nat.le_of_ble_eq_true rfl) rfl ?_
  refine r_sub (lv' := [(0, .ref (gA G a0)), (1, .int (eI x1)), (2, .int (eI x2)), (3, .int (eI 0)), (4, .int (eI 0))]) [2, 3, 4, 1, 0] rfl ?_
  exact bX12_shoutsOf_b5 a0 x1 x2 M oa0 _ _ _ h
theorem kX12_shoutsOf {G : GG} (a0 : Nat) (x1 : Int) (x2 : Int) (M : MM) {res : Int} (oa0 : OB L0 a0 12) (h : sX12_shoutsOf a0 x1 x2 M = some res) : CO G xX12_shoutsOf [.ref (gA G a0), .int (eI x1), .int (eI x2)] L0 M (some (.int (eI res))) L0 M := CO_of (by decide +kernel) (Nat.le_of_ble_eq_true rfl) (bX12_shoutsOf_b0 a0 x1 x2 M oa0 h)
abbrev xX12_heldMost : XX := (yX12_heldMost, cX12_heldMost, 5, (some .int), 2, 45, 0, 0)
theorem ck_X12_heldMost_602 : CKV xX12_heldMost 602 xX12_shoutsOf 2 := ⟨⟨tb_i 2149 (by decide +kernel) (by decide +kernel), tb_i 152 (by decide +kernel) (by decide +kernel), tb_i 2152 (by decide +kernel) (by decide +kernel), ⟨by decide +kernel, by decide +kernel, by decide +kernel⟩, by decide, by decide⟩, tb_i 2151 (by decide +kernel) (by decide +kernel), tb_i 133 (by decide +kernel) (by decide +kernel)⟩
def sX12_heldMost_b67 (a0 : Nat) (M : MM) (K4 : Int → Int → Option Int) (x2 : Int) (x90 : Int) : Option Int := ((some (x2 + 1)).bind fun v_1 => (K4 x90 v_1))
def sX12_heldMost_b55 (a0 : Nat) (M : MM) (K4 : Int → Int → Option Int) (x1 : Int) (x2 : Int) (x90 : Int) : Option Int := (if wI x90 = 0 then (sX12_heldMost_b67 a0 M K4 x2 x1) else (sX12_heldMost_b67 a0 M K4 x2 x2))
def sX12_heldMost_b54 (a0 : Nat) (M : MM) (K4 : Int → Int → Option Int) (x1 : Int) (x2 : Int) : Option Int := (sX12_heldMost_b55 a0 M K4 x1 x2 0)
def sX12_heldMost_b50 (a0 : Nat) (M : MM) (K4 : Int → Int → Option Int) (x1 : Int) (x2 : Int) : Option Int := (sX12_heldMost_b55 a0 M K4 x1 x2 1)
def sX12_heldMost_b4 (a0 : Nat) (M : MM)  : Nat → Int → Int → Option Int
  | 0, _, _ => none
  | n + 1, x1, x2 => (if 8 ≤ wI x2 then (some (x1)) else ((sX12_shoutsOf a0 x2 0 M).bind fun q_2 => (if wI q_2 ≤ 0 then (sX12_heldMost_b54 a0 M (fun x1 x2 => sX12_heldMost_b4 a0 M n x1 x2) x1 x2) else (if wI x1 = (-1) then (sX12_heldMost_b50 a0 M (fun x1 x2 => sX12_heldMost_b4 a0 M n x1 x2) x1 x2) else ((sX12_shoutsOf a0 x2 1 M).bind fun q_5 => ((sX12_shoutsOf a0 x1 0 M).bind fun q_6 => ((sX12_shoutsOf a0 x1 1 M).bind fun q_7 => (if wI (q_5 * q_6) ≤ wI (q_7 * q_2) then (sX12_heldMost_b54 a0 M (fun x1 x2 => sX12_heldMost_b4 a0 M n x1 x2) x1 x2) else (sX12_heldMost_b50 a0 M (fun x1 x2 => sX12_heldMost_b4 a0 M n x1 x2) x1 x2)))))))))
def sX12_heldMost_b0 (a0 : Nat) (M : MM)   : Option Int := (sX12_heldMost_b4 a0 M FU (-1) 0)
def sX12_heldMost (a0 : Nat) (M : MM) : Option Int := sX12_heldMost_b0 a0 M
set_option maxHeartbeats 4000000 in
set_option maxRecDepth 100000 in
theorem bX12_heldMost_b67 {G : GG} (a0 : Nat) (M : MM) (oa0 : OB L0 a0 12) {K4 : Int → Int → Option Int} (x2 : Int) (x90 : Int) {res : Int} (hK4 : ∀ (x1 : Int) (x2 : Int), K4 x1 x2 = some res → VV G xX12_heldMost (ZM G xX12_heldMost (some (.int (eI res))) L0 M) L0 M 0 0 4 [(0, .ref (gA G a0)), (1, .int (eI x1)), (2, .int (eI x2))] [])  (h : sX12_heldMost_b67 a0 M K4 x2 x90 = some res) : VV G xX12_heldMost (ZM G xX12_heldMost (some (.int (eI res))) L0 M) L0 M 0 0 67 [(0, .ref (gA G a0)), (2, .int (eI x2))] [.int (eI x90)] := by
  unfold sX12_heldMost_b67 at h
  refine r_istore_n (pc := 67) (i := 1) (lv' := [(1, .int (eI x90)), (0, .ref (gA G a0)), (2, .int (eI x2))]) dX12_heldMost_67 rfl (Nat.le_of_ble_eq_true rfl) rfl ?_
  obtain ⟨v_1, hv_1, h⟩ := ob h
  refine r_iinc (pc := 68) (y := v_1) (lv' := [(2, .int (eI v_1)), (1, .int (eI x90)), (0, .ref (gA G a0))]) dX12_heldMost_68 2 rfl (Option.some.inj hv_1) (Nat.le_of_ble_eq_true rfl) rfl ?_
  refine r_goto (pc := 71) (tgt := 4) dX12_heldMost_71 (by decide) ?_
  refine r_sub (lv' := [(0, .ref (gA G a0)), (1, .int (eI x90)), (2, .int (eI v_1))]) [2, 1, 0] rfl ?_
  exact hK4 _ _ h
set_option maxHeartbeats 4000000 in
set_option maxRecDepth 100000 in
theorem bX12_heldMost_b55 {G : GG} (a0 : Nat) (M : MM) (oa0 : OB L0 a0 12) {K4 : Int → Int → Option Int} (x1 : Int) (x2 : Int) (x90 : Int) {res : Int} (hK4 : ∀ (x1 : Int) (x2 : Int), K4 x1 x2 = some res → VV G xX12_heldMost (ZM G xX12_heldMost (some (.int (eI res))) L0 M) L0 M 0 0 4 [(0, .ref (gA G a0)), (1, .int (eI x1)), (2, .int (eI x2))] [])  (h : sX12_heldMost_b55 a0 M K4 x1 x2 x90 = some res) : VV G xX12_heldMost (ZM G xX12_heldMost (some (.int (eI res))) L0 M) L0 M 0 0 55 [(0, .ref (gA G a0)), (1, .int (eI x1)), (2, .int (eI x2))] [.int (eI x90)] := by
  unfold sX12_heldMost_b55 at h
  refine r_istore (pc := 55) (lv' := [(4, .int (eI x90)), (0, .ref (gA G a0)), (1, .int (eI x1)), (2, .int (eI x2))]) dX12_heldMost_55 (Nat.le_of_ble_eq_true rfl) rfl ?_
  refine r_iload (pc := 57) dX12_heldMost_57 0 rfl ?_
  refine r_if_eq (pc := 59) (tgt := 66) dX12_heldMost_59 (by decide) rfl (fun c_1 => ?_) (fun c_1 => ?_)
  · replace h := (if_pos c_1).symm.trans h
    refine r_iload_n (pc := 66) (i := 1) dX12_heldMost_66 rfl 2 rfl ?_
    refine r_sub (lv' := [(0, .ref (gA G a0)), (2, .int (eI x2))]) [1, 3] rfl ?_
    exact bX12_heldMost_b67 a0 M oa0 _ _ hK4 h
  · replace h := (if_neg c_1).symm.trans h
    refine r_iload_n (pc := 62) (i := 2) dX12_heldMost_62 rfl 3 rfl ?_
    refine r_goto (pc := 63) (tgt := 67) dX12_heldMost_63 (by decide) ?_
    refine r_sub (lv' := [(0, .ref (gA G a0)), (2, .int (eI x2))]) [1, 3] rfl ?_
    exact bX12_heldMost_b67 a0 M oa0 _ _ hK4 h
set_option maxHeartbeats 4000000 in
set_option maxRecDepth 100000 in
theorem bX12_heldMost_b54 {G : GG} (a0 : Nat) (M : MM) (oa0 : OB L0 a0 12) {K4 : Int → Int → Option Int} (x1 : Int) (x2 : Int) {res : Int} (hK4 : ∀ (x1 : Int) (x2 : Int), K4 x1 x2 = some res → VV G xX12_heldMost (ZM G xX12_heldMost (some (.int (eI res))) L0 M) L0 M 0 0 4 [(0, .ref (gA G a0)), (1, .int (eI x1)), (2, .int (eI x2))] [])  (h : sX12_heldMost_b54 a0 M K4 x1 x2 = some res) : VV G xX12_heldMost (ZM G xX12_heldMost (some (.int (eI res))) L0 M) L0 M 0 0 54 [(0, .ref (gA G a0)), (1, .int (eI x1)), (2, .int (eI x2))] [] := by
  unfold sX12_heldMost_b54 at h
  refine r_iconst (pc := 54) (v := 0) dX12_heldMost_54 (by decide +kernel) ?_
  refine r_sub (lv' := [(0, .ref (gA G a0)), (1, .int (eI x1)), (2, .int (eI x2))]) [0, 1, 2] rfl ?_
  exact bX12_heldMost_b55 a0 M oa0 _ _ _ hK4 h
set_option maxHeartbeats 4000000 in
set_option maxRecDepth 100000 in
theorem bX12_heldMost_b50 {G : GG} (a0 : Nat) (M : MM) (oa0 : OB L0 a0 12) {K4 : Int → Int → Option Int} (x1 : Int) (x2 : Int) {res : Int} (hK4 : ∀ (x1 : Int) (x2 : Int), K4 x1 x2 = some res → VV G xX12_heldMost (ZM G xX12_heldMost (some (.int (eI res))) L0 M) L0 M 0 0 4 [(0, .ref (gA G a0)), (1, .int (eI x1)), (2, .int (eI x2))] [])  (h : sX12_heldMost_b50 a0 M K4 x1 x2 = some res) : VV G xX12_heldMost (ZM G xX12_heldMost (some (.int (eI res))) L0 M) L0 M 0 0 50 [(0, .ref (gA G a0)), (1, .int (eI x1)), (2, .int (eI x2))] [] := by
  unfold sX12_heldMost_b50 at h
  refine r_iconst (pc := 50) (v := 1) dX12_heldMost_50 (by decide +kernel) ?_
  refine r_goto (pc := 51) (tgt := 55) dX12_heldMost_51 (by decide) ?_
  refine r_sub (lv' := [(0, .ref (gA G a0)), (1, .int (eI x1)), (2, .int (eI x2))]) [0, 1, 2] rfl ?_
  exact bX12_heldMost_b55 a0 M oa0 _ _ _ hK4 h
set_option maxHeartbeats 4000000 in
set_option maxRecDepth 100000 in
theorem bX12_heldMost_b4 {G : GG} (a0 : Nat) (M : MM) (oa0 : OB L0 a0 12) {res : Int} : ∀ (n : Nat) (x1 : Int) (x2 : Int)  (h : sX12_heldMost_b4 a0 M n x1 x2 = some res), VV G xX12_heldMost (ZM G xX12_heldMost (some (.int (eI res))) L0 M) L0 M 0 0 4 [(0, .ref (gA G a0)), (1, .int (eI x1)), (2, .int (eI x2))] [] := by
  intro n
  induction n with
  | zero =>
    intro x1 x2 h
    rw [sX12_heldMost_b4] at h
    cases h
  | succ n ih =>
    intro x1 x2 h
    rw [sX12_heldMost_b4] at h
    refine r_iload_n (pc := 4) (i := 2) dX12_heldMost_4 rfl 2 rfl ?_
    refine r_bipush (pc := 5) (v := 8) dX12_heldMost_5 (by decide +kernel) ?_
    refine r_icmp_ge (pc := 7) (tgt := 74) dX12_heldMost_7 (by decide) rfl wl_8 (fun c_1 => ?_) (fun c_1 => ?_)
    · replace h := (if_pos c_1).symm.trans h
      refine r_iload_n (pc := 74) (i := 1) dX12_heldMost_74 rfl 1 rfl ?_
      cases h
      exact r_iret (pc := 75) rfl rfl (Nat.le_refl 0) (Nat.le_refl 0) dX12_heldMost_75
    · replace h := (if_neg c_1).symm.trans h
      refine r_aload_n (pc := 10) (i := 0) dX12_heldMost_10 rfl 0 rfl ?_
      refine r_iload_n (pc := 11) (i := 2) dX12_heldMost_11 rfl 2 rfl ?_
      refine r_iconst (pc := 12) (v := 0) dX12_heldMost_12 (by decide +kernel) ?_
      obtain ⟨q_2, hq_2, h⟩ := ob h
      refine r_cV (pc := 13) (Y := xX12_shoutsOf) (As := [.int (eI x2), .int (eI 0)]) (rest := []) (v := (some (.int (eI q_2)))) (st1 := [.int (eI q_2)]) ck_X12_heldMost_602 (kX12_shoutsOf a0 x2 0 M oa0 hq_2) oa0 rfl rfl rfl rfl (Nat.le_of_ble_eq_true rfl) ⟨rfl, rfl⟩ rfl dX12_heldMost_13 ?_
      refine r_istore_n (pc := 16) (i := 3) (lv' := [(3, .int (eI q_2)), (0, .ref (gA G a0)), (1, .int (eI x1)), (2, .int (eI x2))]) dX12_heldMost_16 rfl (Nat.le_of_ble_eq_true rfl) rfl ?_
      refine r_iload_n (pc := 17) (i := 3) dX12_heldMost_17 rfl 0 rfl ?_
      refine r_if_le (pc := 18) (tgt := 54) dX12_heldMost_18 (by decide) rfl (fun c_3 => ?_) (fun c_3 => ?_)
      · replace h := (if_pos c_3).symm.trans h
        refine r_sub (lv' := [(0, .ref (gA G a0)), (1, .int (eI x1)), (2, .int (eI x2))]) [1, 2, 3] rfl ?_
        exact bX12_heldMost_b54 a0 M oa0 _ _ (fun v0 v1 v2 => ih v0 v1 v2) h
      · replace h := (if_neg c_3).symm.trans h
        refine r_iload_n (pc := 21) (i := 1) dX12_heldMost_21 rfl 2 rfl ?_
        refine r_iconst (pc := 22) (v := (-1)) dX12_heldMost_22 (by decide +kernel) ?_
        refine r_icmp_eq (pc := 23) (tgt := 50) dX12_heldMost_23 (by decide) rfl wl_m1 (fun c_4 => ?_) (fun c_4 => ?_)
        · replace h := (if_pos c_4).symm.trans h
          refine r_sub (lv' := [(0, .ref (gA G a0)), (1, .int (eI x1)), (2, .int (eI x2))]) [1, 2, 3] rfl ?_
          exact bX12_heldMost_b50 a0 M oa0 _ _ (fun v0 v1 v2 => ih v0 v1 v2) h
        · replace h := (if_neg c_4).symm.trans h
          refine r_aload_n (pc := 26) (i := 0) dX12_heldMost_26 rfl 1 rfl ?_
          refine r_iload_n (pc := 27) (i := 2) dX12_heldMost_27 rfl 3 rfl ?_
          refine r_iconst (pc := 28) (v := 1) dX12_heldMost_28 (by decide +kernel) ?_
          obtain ⟨q_5, hq_5, h⟩ := ob h
          refine r_cV (pc := 29) (Y := xX12_shoutsOf) (As := [.int (eI x2), .int (eI 1)]) (rest := []) (v := (some (.int (eI q_5)))) (st1 := [.int (eI q_5)]) ck_X12_heldMost_602 (kX12_shoutsOf a0 x2 1 M oa0 hq_5) oa0 rfl rfl rfl rfl (Nat.le_of_ble_eq_true rfl) ⟨rfl, rfl⟩ rfl dX12_heldMost_29 ?_
          refine r_aload_n (pc := 32) (i := 0) dX12_heldMost_32 rfl 1 rfl ?_
          refine r_iload_n (pc := 33) (i := 1) dX12_heldMost_33 rfl 2 rfl ?_
          refine r_iconst (pc := 34) (v := 0) dX12_heldMost_34 (by decide +kernel) ?_
          obtain ⟨q_6, hq_6, h⟩ := ob h
          refine r_cV (pc := 35) (Y := xX12_shoutsOf) (As := [.int (eI x1), .int (eI 0)]) (rest := [.int (eI q_5)]) (v := (some (.int (eI q_6)))) (st1 := [.int (eI q_6), .int (eI q_5)]) ck_X12_heldMost_602 (kX12_shoutsOf a0 x1 0 M oa0 hq_6) oa0 rfl rfl rfl rfl (Nat.le_of_ble_eq_true rfl) ⟨rfl, rfl⟩ rfl dX12_heldMost_35 ?_
          refine r_imul (pc := 38) dX12_heldMost_38 ?_
          refine r_aload_n (pc := 39) (i := 0) dX12_heldMost_39 rfl 1 rfl ?_
          refine r_iload_n (pc := 40) (i := 1) dX12_heldMost_40 rfl 2 rfl ?_
          refine r_iconst (pc := 41) (v := 1) dX12_heldMost_41 (by decide +kernel) ?_
          obtain ⟨q_7, hq_7, h⟩ := ob h
          refine r_cV (pc := 42) (Y := xX12_shoutsOf) (As := [.int (eI x1), .int (eI 1)]) (rest := [.int (eI (q_5 * q_6))]) (v := (some (.int (eI q_7)))) (st1 := [.int (eI q_7), .int (eI (q_5 * q_6))]) ck_X12_heldMost_602 (kX12_shoutsOf a0 x1 1 M oa0 hq_7) oa0 rfl rfl rfl rfl (Nat.le_of_ble_eq_true rfl) ⟨rfl, rfl⟩ rfl dX12_heldMost_42 ?_
          refine r_iload_n (pc := 45) (i := 3) dX12_heldMost_45 rfl 0 rfl ?_
          refine r_imul (pc := 46) dX12_heldMost_46 ?_
          refine r_icmp_le (pc := 47) (tgt := 54) dX12_heldMost_47 (by decide) rfl rfl (fun c_8 => ?_) (fun c_8 => ?_)
          · replace h := (if_pos c_8).symm.trans h
            refine r_sub (lv' := [(0, .ref (gA G a0)), (1, .int (eI x1)), (2, .int (eI x2))]) [1, 2, 3] rfl ?_
            exact bX12_heldMost_b54 a0 M oa0 _ _ (fun v0 v1 v2 => ih v0 v1 v2) h
          · replace h := (if_neg c_8).symm.trans h
            refine r_sub (lv' := [(0, .ref (gA G a0)), (1, .int (eI x1)), (2, .int (eI x2))]) [1, 2, 3] rfl ?_
            exact bX12_heldMost_b50 a0 M oa0 _ _ (fun v0 v1 v2 => ih v0 v1 v2) h
set_option maxHeartbeats 4000000 in
set_option maxRecDepth 100000 in
theorem bX12_heldMost_b0 {G : GG} (a0 : Nat) (M : MM) (oa0 : OB L0 a0 12)  {res : Int}  (h : sX12_heldMost_b0 a0 M = some res) : VV G xX12_heldMost (ZM G xX12_heldMost (some (.int (eI res))) L0 M) L0 M 0 0 0 [(0, .ref (gA G a0))] [] := by
  unfold sX12_heldMost_b0 at h
  refine r_iconst (pc := 0) (v := (-1)) dX12_heldMost_0 (by decide +kernel) ?_
  refine r_istore_n (pc := 1) (i := 1) (lv' := [(1, .int (eI (-1))), (0, .ref (gA G a0))]) dX12_heldMost_1 rfl (Nat.le_of_ble_eq_true rfl) rfl ?_
  refine r_iconst (pc := 2) (v := 0) dX12_heldMost_2 (by decide +kernel) ?_
  refine r_istore_n (pc := 3) (i := 2) (lv' := [(2, .int (eI 0)), (1, .int (eI (-1))), (0, .ref (gA G a0))]) dX12_heldMost_3 rfl (Nat.le_of_ble_eq_true rfl) rfl ?_
  refine r_sub (lv' := [(0, .ref (gA G a0)), (1, .int (eI (-1))), (2, .int (eI 0))]) [2, 1, 0] rfl ?_
  exact bX12_heldMost_b4 a0 M oa0 _ _ _ h
theorem kX12_heldMost {G : GG} (a0 : Nat) (M : MM) {res : Int} (oa0 : OB L0 a0 12) (h : sX12_heldMost a0 M = some res) : CO G xX12_heldMost [.ref (gA G a0)] L0 M (some (.int (eI res))) L0 M := CO_of (by decide +kernel) (Nat.le_of_ble_eq_true rfl) (bX12_heldMost_b0 a0 M oa0 h)
abbrev xX12_record : XX := (yX12_record, cX12_record, 3, (some .int), 3, 69, 0, 0)
theorem ck_X12_record_105 : CKS xX12_record 105 xX12_in 3 := ⟨⟨tb_i 1622 (by decide +kernel) (by decide +kernel), tb_i 152 (by decide +kernel) (by decide +kernel), tb_i 1624 (by decide +kernel) (by decide +kernel), ⟨by decide +kernel, by decide +kernel, by decide +kernel⟩, by decide, by decide⟩, tb_i 1623 (by decide +kernel) (by decide +kernel)⟩
theorem ck_X12_record_599 : CKV xX12_record 599 xX12_ofRecord 1 := ⟨⟨tb_i 2137 (by decide +kernel) (by decide +kernel), tb_i 152 (by decide +kernel) (by decide +kernel), tb_i 2140 (by decide +kernel) (by decide +kernel), ⟨by decide +kernel, by decide +kernel, by decide +kernel⟩, by decide, by decide⟩, tb_i 2139 (by decide +kernel) (by decide +kernel), tb_i 130 (by decide +kernel) (by decide +kernel)⟩
theorem ck_X12_record_606 : CKV xX12_record 606 xX12_hasRecord 1 := ⟨⟨tb_i 2133 (by decide +kernel) (by decide +kernel), tb_i 152 (by decide +kernel) (by decide +kernel), tb_i 2136 (by decide +kernel) (by decide +kernel), ⟨by decide +kernel, by decide +kernel, by decide +kernel⟩, by decide, by decide⟩, tb_i 2135 (by decide +kernel) (by decide +kernel), tb_i 129 (by decide +kernel) (by decide +kernel)⟩
theorem ck_X12_record_609 : CKV xX12_record 609 xX12_hits 0 := ⟨⟨tb_i 2141 (by decide +kernel) (by decide +kernel), tb_i 152 (by decide +kernel) (by decide +kernel), tb_i 2144 (by decide +kernel) (by decide +kernel), ⟨by decide +kernel, by decide +kernel, by decide +kernel⟩, by decide, by decide⟩, tb_i 2143 (by decide +kernel) (by decide +kernel), tb_i 131 (by decide +kernel) (by decide +kernel)⟩
theorem ck_X12_record_612 : CKV xX12_record 612 xX12_heldMost 0 := ⟨⟨tb_i 2145 (by decide +kernel) (by decide +kernel), tb_i 152 (by decide +kernel) (by decide +kernel), tb_i 2148 (by decide +kernel) (by decide +kernel), ⟨by decide +kernel, by decide +kernel, by decide +kernel⟩, by decide, by decide⟩, tb_i 2147 (by decide +kernel) (by decide +kernel), tb_i 132 (by decide +kernel) (by decide +kernel)⟩
def sX12_record_b83 (a0 : Nat) (x1 : Int) (x2 : Int)  (a90 : Nat) (x91 : Int) (x92 : Int) (M : MM) : Option (Int × MM) := ((sX12_ofRecord a90 (x91 + x92) M).bind fun q_1 => (some ((q_1, M))))
def sX12_record_b70 (a0 : Nat) (x1 : Int) (x2 : Int)  (a90 : Nat) (x91 : Int) (x92 : Int) (x93 : Int) (M : MM) : Option (Int × MM) := (if 60 ≤ wI x2 then (sX12_record_b83 a0 x1 x2 a90 (x91 + (x92 * x93)) 1 M) else (sX12_record_b83 a0 x1 x2 a90 (x91 + (x92 * x93)) 0 M))
def sX12_record_b50 (a0 : Nat) (x1 : Int) (x2 : Int)   (M : MM) : Option (Int × MM) := (if 60 ≤ wI x2 then (sX12_record_b70 a0 x1 x2 a0 2 2 (x2 - 60) M) else (sX12_record_b70 a0 x1 x2 a0 2 2 (x2 - 10) M))
def sX12_record_b0 (a0 : Nat) (x1 : Int) (x2 : Int)   (M : MM) : Option (Int × MM) := ((some (mU M a0 0 0)).bind fun M_1 => ((sX12_hasRecord a0 x1 M_1).bind fun q_2 => (if wI (q_2.1) = 0 then (some (((-2), q_2.2))) else ((sX12_ofRecord a0 0 q_2.2).bind fun q_4 => (if wI (sX12_in x2 10 (9 + q_4)) = 0 then ((sX12_ofRecord a0 0 q_2.2).bind fun q_6 => (if wI (sX12_in x2 60 (59 + q_6)) = 0 then ((sX12_ofRecord a0 1 q_2.2).bind fun q_8 => (if wI (sX12_in x2 110 (109 + q_8)) = 0 then (if wI (sX12_in x2 0 1) = 0 then (if wI x2 = 2 then ((sX12_hits a0 q_2.2).bind fun q_14 => (some ((q_14, q_2.2)))) else (if wI x2 = 3 then ((sX12_heldMost a0 q_2.2).bind fun q_13 => (some ((q_13, q_2.2)))) else (some (((-2), q_2.2))))) else ((sX12_ofRecord a0 x2 q_2.2).bind fun q_15 => (some ((q_15, q_2.2))))) else ((sX12_ofRecord a0 ((82 + x2) - 110) q_2.2).bind fun q_16 => (some ((q_16, q_2.2)))))) else (sX12_record_b50 a0 x1 x2 q_2.2))) else (sX12_record_b50 a0 x1 x2 q_2.2))))))
def sX12_record (a0 : Nat) (x1 : Int) (x2 : Int) (M : MM) : Option (Int × MM) := sX12_record_b0 a0 x1 x2 M
set_option maxHeartbeats 4000000 in
set_option maxRecDepth 100000 in
theorem bX12_record_b83 {G : GG} (a0 : Nat) (x1 : Int) (x2 : Int) (oa0 : OB L0 a0 12) (a90 : Nat) (x91 : Int) (x92 : Int) (M : MM) {res : (Int × MM)} (oa90 : OB L0 a90 12) (h : sX12_record_b83 a0 x1 x2 a90 x91 x92 M = some res) : VV G xX12_record (ZM G xX12_record (some (.int (eI res.1))) L0 res.2) L0 M 0 0 83 [] [.int (eI x92), .int (eI x91), .ref (gA G a90)] := by
  unfold sX12_record_b83 at h
  refine r_iadd (pc := 83) dX12_record_83 ?_
  obtain ⟨q_1, hq_1, h⟩ := ob h
  refine r_cV (pc := 84) (Y := xX12_ofRecord) (As := [.int (eI (x91 + x92))]) (rest := []) (v := (some (.int (eI q_1)))) (st1 := [.int (eI q_1)]) ck_X12_record_599 (kX12_ofRecord a90 (x91 + x92) M oa90 hq_1) oa90 rfl rfl rfl rfl (Nat.le_of_ble_eq_true rfl) ⟨rfl, rfl⟩ rfl dX12_record_84 ?_
  cases h
  exact r_iret (pc := 87) rfl rfl (Nat.le_refl 0) (Nat.le_refl 0) dX12_record_87
set_option maxHeartbeats 4000000 in
set_option maxRecDepth 100000 in
theorem bX12_record_b70 {G : GG} (a0 : Nat) (x1 : Int) (x2 : Int) (oa0 : OB L0 a0 12) (a90 : Nat) (x91 : Int) (x92 : Int) (x93 : Int) (M : MM) {res : (Int × MM)} (oa90 : OB L0 a90 12) (h : sX12_record_b70 a0 x1 x2 a90 x91 x92 x93 M = some res) : VV G xX12_record (ZM G xX12_record (some (.int (eI res.1))) L0 res.2) L0 M 0 0 70 [(2, .int (eI x2))] [.int (eI x93), .int (eI x92), .int (eI x91), .ref (gA G a90)] := by
  unfold sX12_record_b70 at h
  refine r_imul (pc := 70) dX12_record_70 ?_
  refine r_iadd (pc := 71) dX12_record_71 ?_
  refine r_iload_n (pc := 72) (i := 2) dX12_record_72 rfl 0 rfl ?_
  refine r_bipush (pc := 73) (v := 60) dX12_record_73 (by decide +kernel) ?_
  refine r_icmp_ge (pc := 75) (tgt := 82) dX12_record_75 (by decide) rfl wl_60 (fun c_1 => ?_) (fun c_1 => ?_)
  · replace h := (if_pos c_1).symm.trans h
    refine r_iconst (pc := 82) (v := 1) dX12_record_82 (by decide +kernel) ?_
    refine r_sub (lv' := []) [] rfl ?_
    exact bX12_record_b83 a0 x1 x2 oa0 _ _ _ _ oa90 h
  · replace h := (if_neg c_1).symm.trans h
    refine r_iconst (pc := 78) (v := 0) dX12_record_78 (by decide +kernel) ?_
    refine r_goto (pc := 79) (tgt := 83) dX12_record_79 (by decide) ?_
    refine r_sub (lv' := []) [] rfl ?_
    exact bX12_record_b83 a0 x1 x2 oa0 _ _ _ _ oa90 h
set_option maxHeartbeats 4000000 in
set_option maxRecDepth 100000 in
theorem bX12_record_b50 {G : GG} (a0 : Nat) (x1 : Int) (x2 : Int) (oa0 : OB L0 a0 12)  (M : MM) {res : (Int × MM)}  (h : sX12_record_b50 a0 x1 x2 M = some res) : VV G xX12_record (ZM G xX12_record (some (.int (eI res.1))) L0 res.2) L0 M 0 0 50 [(0, .ref (gA G a0)), (2, .int (eI x2))] [] := by
  unfold sX12_record_b50 at h
  refine r_aload_n (pc := 50) (i := 0) dX12_record_50 rfl 0 rfl ?_
  refine r_iconst (pc := 51) (v := 2) dX12_record_51 (by decide +kernel) ?_
  refine r_iconst (pc := 52) (v := 2) dX12_record_52 (by decide +kernel) ?_
  refine r_iload_n (pc := 53) (i := 2) dX12_record_53 rfl 1 rfl ?_
  refine r_bipush (pc := 54) (v := 60) dX12_record_54 (by decide +kernel) ?_
  refine r_icmp_ge (pc := 56) (tgt := 66) dX12_record_56 (by decide) rfl wl_60 (fun c_1 => ?_) (fun c_1 => ?_)
  · replace h := (if_pos c_1).symm.trans h
    refine r_iload_n (pc := 66) (i := 2) dX12_record_66 rfl 1 rfl ?_
    refine r_bipush (pc := 67) (v := 60) dX12_record_67 (by decide +kernel) ?_
    refine r_isub (pc := 69) dX12_record_69 ?_
    refine r_sub (lv' := [(2, .int (eI x2))]) [1] rfl ?_
    exact bX12_record_b70 a0 x1 x2 oa0 _ _ _ _ _ oa0 h
  · replace h := (if_neg c_1).symm.trans h
    refine r_iload_n (pc := 59) (i := 2) dX12_record_59 rfl 1 rfl ?_
    refine r_bipush (pc := 60) (v := 10) dX12_record_60 (by decide +kernel) ?_
    refine r_isub (pc := 62) dX12_record_62 ?_
    refine r_goto (pc := 63) (tgt := 70) dX12_record_63 (by decide) ?_
    refine r_sub (lv' := [(2, .int (eI x2))]) [1] rfl ?_
    exact bX12_record_b70 a0 x1 x2 oa0 _ _ _ _ _ oa0 h
set_option maxHeartbeats 4000000 in
set_option maxRecDepth 100000 in
theorem bX12_record_b0 {G : GG} (a0 : Nat) (x1 : Int) (x2 : Int) (oa0 : OB L0 a0 12)  (M : MM) {res : (Int × MM)}  (h : sX12_record_b0 a0 x1 x2 M = some res) : VV G xX12_record (ZM G xX12_record (some (.int (eI res.1))) L0 res.2) L0 M 0 0 0 [(0, .ref (gA G a0)), (1, .int (eI x1)), (2, .int (eI x2))] [] := by
  unfold sX12_record_b0 at h
  refine r_aload_n (pc := 0) (i := 0) dX12_record_0 rfl 0 rfl ?_
  refine r_iconst (pc := 1) (v := 0) dX12_record_1 (by decide +kernel) ?_
  obtain ⟨M_1, hM_1, h⟩ := ob h
  refine r_putI (pc := 2) fg_12_97 rfl oa0 hM_1 rfl rfl dX12_record_2 ?_
  refine r_aload_n (pc := 5) (i := 0) dX12_record_5 rfl 0 rfl ?_
  refine r_iload_n (pc := 6) (i := 1) dX12_record_6 rfl 1 rfl ?_
  obtain ⟨q_2, hq_2, h⟩ := ob h
  refine r_cV (pc := 7) (Y := xX12_hasRecord) (As := [.int (eI x1)]) (rest := []) (v := (some (.int (eI (q_2.1))))) (st1 := [.int (eI (q_2.1))]) ck_X12_record_606 (kX12_hasRecord a0 x1 M_1 oa0 hq_2) oa0 rfl rfl rfl rfl (Nat.le_of_ble_eq_true rfl) ⟨rfl, rfl⟩ rfl dX12_record_7 ?_
  refine r_if_ne (pc := 10) (tgt := 16) dX12_record_10 (by decide) rfl (fun c_3 => ?_) (fun c_3 => ?_)
  · replace h := (if_neg c_3).symm.trans h
    refine r_iload_n (pc := 16) (i := 2) dX12_record_16 rfl 2 rfl ?_
    refine r_bipush (pc := 17) (v := 10) dX12_record_17 (by decide +kernel) ?_
    refine r_bipush (pc := 19) (v := 9) dX12_record_19 (by decide +kernel) ?_
    refine r_aload_n (pc := 21) (i := 0) dX12_record_21 rfl 0 rfl ?_
    refine r_iconst (pc := 22) (v := 0) dX12_record_22 (by decide +kernel) ?_
    obtain ⟨q_4, hq_4, h⟩ := ob h
    refine r_cV (pc := 23) (Y := xX12_ofRecord) (As := [.int (eI 0)]) (rest := [.int (eI 9), .int (eI 10), .int (eI x2)]) (v := (some (.int (eI q_4)))) (st1 := [.int (eI q_4), .int (eI 9), .int (eI 10), .int (eI x2)]) ck_X12_record_599 (kX12_ofRecord a0 0 q_2.2 oa0 hq_4) oa0 rfl rfl rfl rfl (Nat.le_of_ble_eq_true rfl) ⟨rfl, rfl⟩ rfl dX12_record_23 ?_
    refine r_iadd (pc := 26) dX12_record_26 ?_
    refine r_cS (pc := 27) (Y := xX12_in) (As := [.int (eI x2), .int (eI 10), .int (eI (9 + q_4))]) (rest := []) (v := (some (.int (eI (sX12_in x2 10 (9 + q_4)))))) (st1 := [.int (eI (sX12_in x2 10 (9 + q_4)))]) ck_X12_record_105 (kX12_in x2 10 (9 + q_4) q_2.2 ) rfl rfl (Nat.le_of_ble_eq_true rfl) ⟨rfl, rfl⟩ rfl dX12_record_27 ?_
    refine r_if_ne (pc := 30) (tgt := 50) dX12_record_30 (by decide) rfl (fun c_5 => ?_) (fun c_5 => ?_)
    · replace h := (if_neg c_5).symm.trans h
      refine r_sub (lv' := [(0, .ref (gA G a0)), (2, .int (eI x2))]) [0, 2] rfl ?_
      exact bX12_record_b50 a0 x1 x2 oa0 _ h
    · replace h := (if_pos c_5).symm.trans h
      refine r_iload_n (pc := 33) (i := 2) dX12_record_33 rfl 2 rfl ?_
      refine r_bipush (pc := 34) (v := 60) dX12_record_34 (by decide +kernel) ?_
      refine r_bipush (pc := 36) (v := 59) dX12_record_36 (by decide +kernel) ?_
      refine r_aload_n (pc := 38) (i := 0) dX12_record_38 rfl 0 rfl ?_
      refine r_iconst (pc := 39) (v := 0) dX12_record_39 (by decide +kernel) ?_
      obtain ⟨q_6, hq_6, h⟩ := ob h
      refine r_cV (pc := 40) (Y := xX12_ofRecord) (As := [.int (eI 0)]) (rest := [.int (eI 59), .int (eI 60), .int (eI x2)]) (v := (some (.int (eI q_6)))) (st1 := [.int (eI q_6), .int (eI 59), .int (eI 60), .int (eI x2)]) ck_X12_record_599 (kX12_ofRecord a0 0 q_2.2 oa0 hq_6) oa0 rfl rfl rfl rfl (Nat.le_of_ble_eq_true rfl) ⟨rfl, rfl⟩ rfl dX12_record_40 ?_
      refine r_iadd (pc := 43) dX12_record_43 ?_
      refine r_cS (pc := 44) (Y := xX12_in) (As := [.int (eI x2), .int (eI 60), .int (eI (59 + q_6))]) (rest := []) (v := (some (.int (eI (sX12_in x2 60 (59 + q_6)))))) (st1 := [.int (eI (sX12_in x2 60 (59 + q_6)))]) ck_X12_record_105 (kX12_in x2 60 (59 + q_6) q_2.2 ) rfl rfl (Nat.le_of_ble_eq_true rfl) ⟨rfl, rfl⟩ rfl dX12_record_44 ?_
      refine r_if_eq (pc := 47) (tgt := 88) dX12_record_47 (by decide) rfl (fun c_7 => ?_) (fun c_7 => ?_)
      · replace h := (if_pos c_7).symm.trans h
        refine r_iload_n (pc := 88) (i := 2) dX12_record_88 rfl 2 rfl ?_
        refine r_bipush (pc := 89) (v := 110) dX12_record_89 (by decide +kernel) ?_
        refine r_bipush (pc := 91) (v := 109) dX12_record_91 (by decide +kernel) ?_
        refine r_aload_n (pc := 93) (i := 0) dX12_record_93 rfl 0 rfl ?_
        refine r_iconst (pc := 94) (v := 1) dX12_record_94 (by decide +kernel) ?_
        obtain ⟨q_8, hq_8, h⟩ := ob h
        refine r_cV (pc := 95) (Y := xX12_ofRecord) (As := [.int (eI 1)]) (rest := [.int (eI 109), .int (eI 110), .int (eI x2)]) (v := (some (.int (eI q_8)))) (st1 := [.int (eI q_8), .int (eI 109), .int (eI 110), .int (eI x2)]) ck_X12_record_599 (kX12_ofRecord a0 1 q_2.2 oa0 hq_8) oa0 rfl rfl rfl rfl (Nat.le_of_ble_eq_true rfl) ⟨rfl, rfl⟩ rfl dX12_record_95 ?_
        refine r_iadd (pc := 98) dX12_record_98 ?_
        refine r_cS (pc := 99) (Y := xX12_in) (As := [.int (eI x2), .int (eI 110), .int (eI (109 + q_8))]) (rest := []) (v := (some (.int (eI (sX12_in x2 110 (109 + q_8)))))) (st1 := [.int (eI (sX12_in x2 110 (109 + q_8)))]) ck_X12_record_105 (kX12_in x2 110 (109 + q_8) q_2.2 ) rfl rfl (Nat.le_of_ble_eq_true rfl) ⟨rfl, rfl⟩ rfl dX12_record_99 ?_
        refine r_if_eq (pc := 102) (tgt := 117) dX12_record_102 (by decide) rfl (fun c_9 => ?_) (fun c_9 => ?_)
        · replace h := (if_pos c_9).symm.trans h
          refine r_iload_n (pc := 117) (i := 2) dX12_record_117 rfl 2 rfl ?_
          refine r_iconst (pc := 118) (v := 0) dX12_record_118 (by decide +kernel) ?_
          refine r_iconst (pc := 119) (v := 1) dX12_record_119 (by decide +kernel) ?_
          refine r_cS (pc := 120) (Y := xX12_in) (As := [.int (eI x2), .int (eI 0), .int (eI 1)]) (rest := []) (v := (some (.int (eI (sX12_in x2 0 1))))) (st1 := [.int (eI (sX12_in x2 0 1))]) ck_X12_record_105 (kX12_in x2 0 1 q_2.2 ) rfl rfl (Nat.le_of_ble_eq_true rfl) ⟨rfl, rfl⟩ rfl dX12_record_120 ?_
          refine r_if_eq (pc := 123) (tgt := 134) dX12_record_123 (by decide) rfl (fun c_10 => ?_) (fun c_10 => ?_)
          · replace h := (if_pos c_10).symm.trans h
            refine r_iload_n (pc := 134) (i := 2) dX12_record_134 rfl 2 rfl ?_
            refine r_iconst (pc := 135) (v := 2) dX12_record_135 (by decide +kernel) ?_
            refine r_icmp_ne (pc := 136) (tgt := 146) dX12_record_136 (by decide) rfl wl_2 (fun c_11 => ?_) (fun c_11 => ?_)
            · replace h := (if_neg c_11).symm.trans h
              refine r_iload_n (pc := 146) (i := 2) dX12_record_146 rfl 2 rfl ?_
              refine r_iconst (pc := 147) (v := 3) dX12_record_147 (by decide +kernel) ?_
              refine r_icmp_ne (pc := 148) (tgt := 158) dX12_record_148 (by decide) rfl wl_3 (fun c_12 => ?_) (fun c_12 => ?_)
              · replace h := (if_neg c_12).symm.trans h
                refine r_bipush (pc := 158) (v := (-2)) dX12_record_158 (by decide +kernel) ?_
                cases h
                exact r_iret (pc := 160) rfl rfl (Nat.le_refl 0) (Nat.le_refl 0) dX12_record_160
              · replace h := (if_pos c_12).symm.trans h
                refine r_aload_n (pc := 151) (i := 0) dX12_record_151 rfl 0 rfl ?_
                obtain ⟨q_13, hq_13, h⟩ := ob h
                refine r_cV (pc := 152) (Y := xX12_heldMost) (As := []) (rest := []) (v := (some (.int (eI q_13)))) (st1 := [.int (eI q_13)]) ck_X12_record_612 (kX12_heldMost a0 q_2.2 oa0 hq_13) oa0 rfl rfl rfl rfl (Nat.le_of_ble_eq_true rfl) ⟨rfl, rfl⟩ rfl dX12_record_152 ?_
                refine r_goto (pc := 155) (tgt := 160) dX12_record_155 (by decide) ?_
                cases h
                exact r_iret (pc := 160) rfl rfl (Nat.le_refl 0) (Nat.le_refl 0) dX12_record_160
            · replace h := (if_pos c_11).symm.trans h
              refine r_aload_n (pc := 139) (i := 0) dX12_record_139 rfl 0 rfl ?_
              obtain ⟨q_14, hq_14, h⟩ := ob h
              refine r_cV (pc := 140) (Y := xX12_hits) (As := []) (rest := []) (v := (some (.int (eI q_14)))) (st1 := [.int (eI q_14)]) ck_X12_record_609 (kX12_hits a0 q_2.2 oa0 hq_14) oa0 rfl rfl rfl rfl (Nat.le_of_ble_eq_true rfl) ⟨rfl, rfl⟩ rfl dX12_record_140 ?_
              refine r_goto (pc := 143) (tgt := 160) dX12_record_143 (by decide) ?_
              cases h
              exact r_iret (pc := 160) rfl rfl (Nat.le_refl 0) (Nat.le_refl 0) dX12_record_160
          · replace h := (if_neg c_10).symm.trans h
            refine r_aload_n (pc := 126) (i := 0) dX12_record_126 rfl 0 rfl ?_
            refine r_iload_n (pc := 127) (i := 2) dX12_record_127 rfl 2 rfl ?_
            obtain ⟨q_15, hq_15, h⟩ := ob h
            refine r_cV (pc := 128) (Y := xX12_ofRecord) (As := [.int (eI x2)]) (rest := []) (v := (some (.int (eI q_15)))) (st1 := [.int (eI q_15)]) ck_X12_record_599 (kX12_ofRecord a0 x2 q_2.2 oa0 hq_15) oa0 rfl rfl rfl rfl (Nat.le_of_ble_eq_true rfl) ⟨rfl, rfl⟩ rfl dX12_record_128 ?_
            refine r_goto (pc := 131) (tgt := 160) dX12_record_131 (by decide) ?_
            cases h
            exact r_iret (pc := 160) rfl rfl (Nat.le_refl 0) (Nat.le_refl 0) dX12_record_160
        · replace h := (if_neg c_9).symm.trans h
          refine r_aload_n (pc := 105) (i := 0) dX12_record_105 rfl 0 rfl ?_
          refine r_bipush (pc := 106) (v := 82) dX12_record_106 (by decide +kernel) ?_
          refine r_iload_n (pc := 108) (i := 2) dX12_record_108 rfl 2 rfl ?_
          refine r_iadd (pc := 109) dX12_record_109 ?_
          refine r_bipush (pc := 110) (v := 110) dX12_record_110 (by decide +kernel) ?_
          refine r_isub (pc := 112) dX12_record_112 ?_
          obtain ⟨q_16, hq_16, h⟩ := ob h
          refine r_cV (pc := 113) (Y := xX12_ofRecord) (As := [.int (eI ((82 + x2) - 110))]) (rest := []) (v := (some (.int (eI q_16)))) (st1 := [.int (eI q_16)]) ck_X12_record_599 (kX12_ofRecord a0 ((82 + x2) - 110) q_2.2 oa0 hq_16) oa0 rfl rfl rfl rfl (Nat.le_of_ble_eq_true rfl) ⟨rfl, rfl⟩ rfl dX12_record_113 ?_
          cases h
          exact r_iret (pc := 116) rfl rfl (Nat.le_refl 0) (Nat.le_refl 0) dX12_record_116
      · replace h := (if_neg c_7).symm.trans h
        refine r_sub (lv' := [(0, .ref (gA G a0)), (2, .int (eI x2))]) [0, 2] rfl ?_
        exact bX12_record_b50 a0 x1 x2 oa0 _ h
  · replace h := (if_pos c_3).symm.trans h
    refine r_bipush (pc := 13) (v := (-2)) dX12_record_13 (by decide +kernel) ?_
    cases h
    exact r_iret (pc := 15) rfl rfl (Nat.le_refl 0) (Nat.le_refl 0) dX12_record_15
theorem kX12_record {G : GG} (a0 : Nat) (x1 : Int) (x2 : Int) (M : MM) {res : (Int × MM)} (oa0 : OB L0 a0 12) (h : sX12_record a0 x1 x2 M = some res) : CO G xX12_record [.ref (gA G a0), .int (eI x1), .int (eI x2)] L0 M (some (.int (eI res.1))) L0 res.2 := CO_of (by decide +kernel) (Nat.le_of_ble_eq_true rfl) (bX12_record_b0 a0 x1 x2 oa0 M h)
abbrev xX12_trust : XX := (yX12_trust, cX12_trust, 4, (some .int), 3, 65, 0, 0)
theorem ck_X12_trust_455 : CKS xX12_trust 455 xX12_least 3 := ⟨⟨tb_i 1916 (by decide +kernel) (by decide +kernel), tb_i 152 (by decide +kernel) (by decide +kernel), tb_i 1918 (by decide +kernel) (by decide +kernel), ⟨by decide +kernel, by decide +kernel, by decide +kernel⟩, by decide, by decide⟩, tb_i 1917 (by decide +kernel) (by decide +kernel)⟩
theorem ck_X12_trust_602 : CKV xX12_trust 602 xX12_shoutsOf 2 := ⟨⟨tb_i 2149 (by decide +kernel) (by decide +kernel), tb_i 152 (by decide +kernel) (by decide +kernel), tb_i 2152 (by decide +kernel) (by decide +kernel), ⟨by decide +kernel, by decide +kernel, by decide +kernel⟩, by decide, by decide⟩, tb_i 2151 (by decide +kernel) (by decide +kernel), tb_i 133 (by decide +kernel) (by decide +kernel)⟩
theorem ck_X12_trust_606 : CKV xX12_trust 606 xX12_hasRecord 1 := ⟨⟨tb_i 2133 (by decide +kernel) (by decide +kernel), tb_i 152 (by decide +kernel) (by decide +kernel), tb_i 2136 (by decide +kernel) (by decide +kernel), ⟨by decide +kernel, by decide +kernel, by decide +kernel⟩, by decide, by decide⟩, tb_i 2135 (by decide +kernel) (by decide +kernel), tb_i 129 (by decide +kernel) (by decide +kernel)⟩
def sX12_trust_b0 (a0 : Nat) (x1 : Int) (x2 : Int) (x3 : Int)   (M : MM) : Option (Int × MM) := ((some (mU M a0 0 0)).bind fun M_1 => ((sX12_hasRecord a0 x1 M_1).bind fun q_2 => (if wI (q_2.1) = 0 then (some (((-1), q_2.2))) else ((sX12_shoutsOf a0 x2 0 q_2.2).bind fun q_4 => (if wI q_4 = 0 then (some (((-1), q_2.2))) else ((sX12_shoutsOf a0 x2 1 q_2.2).bind fun q_6 => ((sX12_shoutsOf a0 x2 0 q_2.2).bind fun q_7 => ((sX12_least (wI q_6) (wI q_7) x3).bind fun q_8 => (some ((q_8, q_2.2)))))))))))
def sX12_trust (a0 : Nat) (x1 : Int) (x2 : Int) (x3 : Int) (M : MM) : Option (Int × MM) := sX12_trust_b0 a0 x1 x2 x3 M
set_option maxHeartbeats 4000000 in
set_option maxRecDepth 100000 in
theorem bX12_trust_b0 {G : GG} (a0 : Nat) (x1 : Int) (x2 : Int) (x3 : Int) (oa0 : OB L0 a0 12)  (M : MM) {res : (Int × MM)}  (h : sX12_trust_b0 a0 x1 x2 x3 M = some res) : VV G xX12_trust (ZM G xX12_trust (some (.int (eI res.1))) L0 res.2) L0 M 0 0 0 [(0, .ref (gA G a0)), (1, .int (eI x1)), (2, .int (eI x2)), (3, .int (eI x3))] [] := by
  unfold sX12_trust_b0 at h
  refine r_aload_n (pc := 0) (i := 0) dX12_trust_0 rfl 0 rfl ?_
  refine r_iconst (pc := 1) (v := 0) dX12_trust_1 (by decide +kernel) ?_
  obtain ⟨M_1, hM_1, h⟩ := ob h
  refine r_putI (pc := 2) fg_12_97 rfl oa0 hM_1 rfl rfl dX12_trust_2 ?_
  refine r_aload_n (pc := 5) (i := 0) dX12_trust_5 rfl 0 rfl ?_
  refine r_iload_n (pc := 6) (i := 1) dX12_trust_6 rfl 1 rfl ?_
  obtain ⟨q_2, hq_2, h⟩ := ob h
  refine r_cV (pc := 7) (Y := xX12_hasRecord) (As := [.int (eI x1)]) (rest := []) (v := (some (.int (eI (q_2.1))))) (st1 := [.int (eI (q_2.1))]) ck_X12_trust_606 (kX12_hasRecord a0 x1 M_1 oa0 hq_2) oa0 rfl rfl rfl rfl (Nat.le_of_ble_eq_true rfl) ⟨rfl, rfl⟩ rfl dX12_trust_7 ?_
  refine r_if_eq (pc := 10) (tgt := 22) dX12_trust_10 (by decide) rfl (fun c_3 => ?_) (fun c_3 => ?_)
  · replace h := (if_pos c_3).symm.trans h
    refine r_iconst (pc := 22) (v := (-1)) dX12_trust_22 (by decide +kernel) ?_
    cases h
    exact r_iret (pc := 23) rfl rfl (Nat.le_refl 0) (Nat.le_refl 0) dX12_trust_23
  · replace h := (if_neg c_3).symm.trans h
    refine r_aload_n (pc := 13) (i := 0) dX12_trust_13 rfl 0 rfl ?_
    refine r_iload_n (pc := 14) (i := 2) dX12_trust_14 rfl 2 rfl ?_
    refine r_iconst (pc := 15) (v := 0) dX12_trust_15 (by decide +kernel) ?_
    obtain ⟨q_4, hq_4, h⟩ := ob h
    refine r_cV (pc := 16) (Y := xX12_shoutsOf) (As := [.int (eI x2), .int (eI 0)]) (rest := []) (v := (some (.int (eI q_4)))) (st1 := [.int (eI q_4)]) ck_X12_trust_602 (kX12_shoutsOf a0 x2 0 q_2.2 oa0 hq_4) oa0 rfl rfl rfl rfl (Nat.le_of_ble_eq_true rfl) ⟨rfl, rfl⟩ rfl dX12_trust_16 ?_
    refine r_if_ne (pc := 19) (tgt := 24) dX12_trust_19 (by decide) rfl (fun c_5 => ?_) (fun c_5 => ?_)
    · replace h := (if_neg c_5).symm.trans h
      refine r_aload_n (pc := 24) (i := 0) dX12_trust_24 rfl 0 rfl ?_
      refine r_iload_n (pc := 25) (i := 2) dX12_trust_25 rfl 2 rfl ?_
      refine r_iconst (pc := 26) (v := 1) dX12_trust_26 (by decide +kernel) ?_
      obtain ⟨q_6, hq_6, h⟩ := ob h
      refine r_cV (pc := 27) (Y := xX12_shoutsOf) (As := [.int (eI x2), .int (eI 1)]) (rest := []) (v := (some (.int (eI q_6)))) (st1 := [.int (eI q_6)]) ck_X12_trust_602 (kX12_shoutsOf a0 x2 1 q_2.2 oa0 hq_6) oa0 rfl rfl rfl rfl (Nat.le_of_ble_eq_true rfl) ⟨rfl, rfl⟩ rfl dX12_trust_27 ?_
      refine r_i2l (pc := 30) rfl dX12_trust_30 ?_
      refine r_aload_n (pc := 31) (i := 0) dX12_trust_31 rfl 0 rfl ?_
      refine r_iload_n (pc := 32) (i := 2) dX12_trust_32 rfl 2 rfl ?_
      refine r_iconst (pc := 33) (v := 0) dX12_trust_33 (by decide +kernel) ?_
      obtain ⟨q_7, hq_7, h⟩ := ob h
      refine r_cV (pc := 34) (Y := xX12_shoutsOf) (As := [.int (eI x2), .int (eI 0)]) (rest := [.long (eJ (wI q_6))]) (v := (some (.int (eI q_7)))) (st1 := [.int (eI q_7), .long (eJ (wI q_6))]) ck_X12_trust_602 (kX12_shoutsOf a0 x2 0 q_2.2 oa0 hq_7) oa0 rfl rfl rfl rfl (Nat.le_of_ble_eq_true rfl) ⟨rfl, rfl⟩ rfl dX12_trust_34 ?_
      refine r_i2l (pc := 37) rfl dX12_trust_37 ?_
      refine r_iload_n (pc := 38) (i := 3) dX12_trust_38 rfl 3 rfl ?_
      obtain ⟨q_8, hq_8, h⟩ := ob h
      refine r_cS (pc := 39) (Y := xX12_least) (As := [.long (eJ (wI q_6)), .long (eJ (wI q_7)), .int (eI x3)]) (rest := []) (v := (some (.long (eJ q_8)))) (st1 := [.long (eJ q_8)]) ck_X12_trust_455 (kX12_least (wI q_6) (wI q_7) x3 q_2.2  hq_8) rfl rfl (Nat.le_of_ble_eq_true rfl) ⟨rfl, rfl⟩ rfl dX12_trust_39 ?_
      refine r_l2i (pc := 42) dX12_trust_42 ?_
      cases h
      exact r_iret (pc := 43) rfl rfl (Nat.le_refl 0) (Nat.le_refl 0) dX12_trust_43
    · replace h := (if_pos c_5).symm.trans h
      refine r_iconst (pc := 22) (v := (-1)) dX12_trust_22 (by decide +kernel) ?_
      cases h
      exact r_iret (pc := 23) rfl rfl (Nat.le_refl 0) (Nat.le_refl 0) dX12_trust_23
theorem kX12_trust {G : GG} (a0 : Nat) (x1 : Int) (x2 : Int) (x3 : Int) (M : MM) {res : (Int × MM)} (oa0 : OB L0 a0 12) (h : sX12_trust a0 x1 x2 x3 M = some res) : CO G xX12_trust [.ref (gA G a0), .int (eI x1), .int (eI x2), .int (eI x3)] L0 M (some (.int (eI res.1))) L0 res.2 := CO_of (by decide +kernel) (Nat.le_of_ble_eq_true rfl) (bX12_trust_b0 a0 x1 x2 x3 oa0 M h)
abbrev xX12_power : XX := (yX12_power, cX12_power, 5, (some .long), 0, 0, 0, 0)
def sX12_power_b5 (x0 : Int) (x1 : Int)  : Nat → Int → Int → Option Int
  | 0, _, _ => none
  | n + 1, y2, x4 => (if wI x1 ≤ wI x4 then (some (y2)) else ((some (x4 + 1)).bind fun v_2 => (sX12_power_b5 x0 x1 n (y2 * (wI x0)) v_2)))
def sX12_power_b0 (x0 : Int) (x1 : Int)   : Option Int := (sX12_power_b5 x0 x1 FU 1 0)
def sX12_power (x0 : Int) (x1 : Int) : Option Int := sX12_power_b0 x0 x1
set_option maxHeartbeats 4000000 in
set_option maxRecDepth 100000 in
theorem bX12_power_b5 {G : GG} (x0 : Int) (x1 : Int) (M : MM)  {res : Int} : ∀ (n : Nat) (y2 : Int) (x4 : Int)  (h : sX12_power_b5 x0 x1 n y2 x4 = some res), VV G xX12_power (ZM G xX12_power (some (.long (eJ res))) L0 M) L0 M 0 0 5 [(0, .int (eI x0)), (1, .int (eI x1)), (2, .long (eJ y2)), (4, .int (eI x4))] [] := by
  intro n
  induction n with
  | zero =>
    intro y2 x4 h
    rw [sX12_power_b5] at h
    cases h
  | succ n ih =>
    intro y2 x4 h
    rw [sX12_power_b5] at h
    refine r_iload (pc := 5) dX12_power_5 3 rfl ?_
    refine r_iload_n (pc := 7) (i := 1) dX12_power_7 rfl 1 rfl ?_
    refine r_icmp_ge (pc := 8) (tgt := 22) dX12_power_8 (by decide) rfl rfl (fun c_1 => ?_) (fun c_1 => ?_)
    · replace h := (if_pos c_1).symm.trans h
      refine r_lload_n (pc := 22) (i := 2) dX12_power_22 rfl 2 rfl ?_
      cases h
      exact r_lret (pc := 23) rfl (Nat.le_refl 0) (Nat.le_refl 0) dX12_power_23
    · replace h := (if_neg c_1).symm.trans h
      refine r_lload_n (pc := 11) (i := 2) dX12_power_11 rfl 2 rfl ?_
      refine r_iload_n (pc := 12) (i := 0) dX12_power_12 rfl 0 rfl ?_
      refine r_i2l (pc := 13) rfl dX12_power_13 ?_
      refine r_lmul (pc := 14) dX12_power_14 ?_
      refine r_lstore_n (pc := 15) (i := 2) (lv' := [(2, .long (eJ (y2 * (wI x0)))), (0, .int (eI x0)), (1, .int (eI x1)), (4, .int (eI x4))]) dX12_power_15 rfl (Nat.le_of_ble_eq_true rfl) rfl ?_
      obtain ⟨v_2, hv_2, h⟩ := ob h
      refine r_iinc (pc := 16) (y := v_2) (lv' := [(4, .int (eI v_2)), (2, .long (eJ (y2 * (wI x0)))), (0, .int (eI x0)), (1, .int (eI x1))]) dX12_power_16 3 rfl (Option.some.inj hv_2) (Nat.le_of_ble_eq_true rfl) rfl ?_
      refine r_goto (pc := 19) (tgt := 5) dX12_power_19 (by decide) ?_
      refine r_sub (lv' := [(0, .int (eI x0)), (1, .int (eI x1)), (2, .long (eJ (y2 * (wI x0)))), (4, .int (eI v_2))]) [2, 3, 1, 0] rfl ?_
      exact ih _ _ h
set_option maxHeartbeats 4000000 in
set_option maxRecDepth 100000 in
theorem bX12_power_b0 {G : GG} (x0 : Int) (x1 : Int) (M : MM)   {res : Int}  (h : sX12_power_b0 x0 x1 = some res) : VV G xX12_power (ZM G xX12_power (some (.long (eJ res))) L0 M) L0 M 0 0 0 [(0, .int (eI x0)), (1, .int (eI x1))] [] := by
  unfold sX12_power_b0 at h
  refine r_lconst (pc := 0) (v := 1) dX12_power_0 (by decide +kernel) ?_
  refine r_lstore_n (pc := 1) (i := 2) (lv' := [(2, .long (eJ 1)), (0, .int (eI x0)), (1, .int (eI x1))]) dX12_power_1 rfl (Nat.le_of_ble_eq_true rfl) rfl ?_
  refine r_iconst (pc := 2) (v := 0) dX12_power_2 (by decide +kernel) ?_
  refine r_istore (pc := 3) (lv' := [(4, .int (eI 0)), (2, .long (eJ 1)), (0, .int (eI x0)), (1, .int (eI x1))]) dX12_power_3 (Nat.le_of_ble_eq_true rfl) rfl ?_
  refine r_sub (lv' := [(0, .int (eI x0)), (1, .int (eI x1)), (2, .long (eJ 1)), (4, .int (eI 0))]) [2, 3, 1, 0] rfl ?_
  exact bX12_power_b5 x0 x1 M _ _ _ h
theorem kX12_power {G : GG} (x0 : Int) (x1 : Int) (M : MM) {res : Int}  (h : sX12_power x0 x1 = some res) : CO G xX12_power [.int (eI x0), .int (eI x1)] L0 M (some (.long (eJ res))) L0 M := CO_of (by decide +kernel) (Nat.le_of_ble_eq_true rfl) (bX12_power_b0 x0 x1 M h)
abbrev xX12_peeped : XX := (yX12_peeped, cX12_peeped, 11, (some .long), 3, 65, 0, 0)
theorem ck_X12_peeped_105 : CKS xX12_peeped 105 xX12_in 3 := ⟨⟨tb_i 1622 (by decide +kernel) (by decide +kernel), tb_i 152 (by decide +kernel) (by decide +kernel), tb_i 1624 (by decide +kernel) (by decide +kernel), ⟨by decide +kernel, by decide +kernel, by decide +kernel⟩, by decide, by decide⟩, tb_i 1623 (by decide +kernel) (by decide +kernel)⟩
theorem ck_X12_peeped_455 : CKS xX12_peeped 455 xX12_least 3 := ⟨⟨tb_i 1916 (by decide +kernel) (by decide +kernel), tb_i 152 (by decide +kernel) (by decide +kernel), tb_i 1918 (by decide +kernel) (by decide +kernel), ⟨by decide +kernel, by decide +kernel, by decide +kernel⟩, by decide, by decide⟩, tb_i 1917 (by decide +kernel) (by decide +kernel)⟩
theorem ck_X12_peeped_599 : CKV xX12_peeped 599 xX12_ofRecord 1 := ⟨⟨tb_i 2137 (by decide +kernel) (by decide +kernel), tb_i 152 (by decide +kernel) (by decide +kernel), tb_i 2140 (by decide +kernel) (by decide +kernel), ⟨by decide +kernel, by decide +kernel, by decide +kernel⟩, by decide, by decide⟩, tb_i 2139 (by decide +kernel) (by decide +kernel), tb_i 130 (by decide +kernel) (by decide +kernel)⟩
theorem ck_X12_peeped_606 : CKV xX12_peeped 606 xX12_hasRecord 1 := ⟨⟨tb_i 2133 (by decide +kernel) (by decide +kernel), tb_i 152 (by decide +kernel) (by decide +kernel), tb_i 2136 (by decide +kernel) (by decide +kernel), ⟨by decide +kernel, by decide +kernel, by decide +kernel⟩, by decide, by decide⟩, tb_i 2135 (by decide +kernel) (by decide +kernel), tb_i 129 (by decide +kernel) (by decide +kernel)⟩
theorem ck_X12_peeped_609 : CKV xX12_peeped 609 xX12_hits 0 := ⟨⟨tb_i 2141 (by decide +kernel) (by decide +kernel), tb_i 152 (by decide +kernel) (by decide +kernel), tb_i 2144 (by decide +kernel) (by decide +kernel), ⟨by decide +kernel, by decide +kernel, by decide +kernel⟩, by decide, by decide⟩, tb_i 2143 (by decide +kernel) (by decide +kernel), tb_i 131 (by decide +kernel) (by decide +kernel)⟩
theorem ck_X12_peeped_615 : CKS xX12_peeped 615 xX12_power 2 := ⟨⟨tb_i 2161 (by decide +kernel) (by decide +kernel), tb_i 152 (by decide +kernel) (by decide +kernel), tb_i 2163 (by decide +kernel) (by decide +kernel), ⟨by decide +kernel, by decide +kernel, by decide +kernel⟩, by decide, by decide⟩, tb_i 2162 (by decide +kernel) (by decide +kernel)⟩
def sX12_peeped_b33 (a0 : Nat) (x1 : Int) (x2 : Int) (x3 : Int) (x4 : Int)   (M : MM) : Option (Int × MM) := (some (((-1), M)))
def sX12_peeped_b0 (a0 : Nat) (x1 : Int) (x2 : Int) (x3 : Int) (x4 : Int)   (M : MM) : Option (Int × MM) := ((some (mU M a0 0 0)).bind fun M_1 => (if wI (sX12_in x2 0 10) = 0 then (sX12_peeped_b33 a0 x1 x2 x3 x4 M_1) else (if wI (sX12_in x3 0 10) = 0 then (sX12_peeped_b33 a0 x1 x2 x3 x4 M_1) else ((sX12_hasRecord a0 x1 M_1).bind fun q_4 => (if wI (q_4.1) = 0 then (sX12_peeped_b33 a0 x1 x2 x3 x4 q_4.2) else ((sX12_hits a0 q_4.2).bind fun q_6 => ((sX12_ofRecord a0 1 q_4.2).bind fun q_7 => ((sX12_power x2 q_6).bind fun q_8 => ((sX12_power (10 - x2) (q_7 - q_6)).bind fun q_9 => ((sX12_power x3 q_6).bind fun q_10 => ((sX12_power (10 - x3) (q_7 - q_6)).bind fun q_11 => (if wJ ((q_8 * q_9) + (q_10 * q_11)) = 0 then (some (((-1), q_4.2))) else ((sX12_least (q_10 * q_11) ((q_8 * q_9) + (q_10 * q_11)) x4).bind fun q_13 => (some ((q_13, q_4.2))))))))))))))))
def sX12_peeped (a0 : Nat) (x1 : Int) (x2 : Int) (x3 : Int) (x4 : Int) (M : MM) : Option (Int × MM) := sX12_peeped_b0 a0 x1 x2 x3 x4 M
set_option maxHeartbeats 4000000 in
set_option maxRecDepth 100000 in
theorem bX12_peeped_b33 {G : GG} (a0 : Nat) (x1 : Int) (x2 : Int) (x3 : Int) (x4 : Int) (oa0 : OB L0 a0 12)  (M : MM) {res : (Int × MM)}  (h : sX12_peeped_b33 a0 x1 x2 x3 x4 M = some res) : VV G xX12_peeped (ZM G xX12_peeped (some (.long (eJ res.1))) L0 res.2) L0 M 0 0 33 [] [] := by
  unfold sX12_peeped_b33 at h
  refine r_ldc2 (pc := 33) (v := (-1)) kc_12_459 dX12_peeped_33 ?_
  cases h
  exact r_lret (pc := 36) rfl (Nat.le_refl 0) (Nat.le_refl 0) dX12_peeped_36
set_option maxHeartbeats 4000000 in
set_option maxRecDepth 100000 in
theorem bX12_peeped_b0 {G : GG} (a0 : Nat) (x1 : Int) (x2 : Int) (x3 : Int) (x4 : Int) (oa0 : OB L0 a0 12)  (M : MM) {res : (Int × MM)}  (h : sX12_peeped_b0 a0 x1 x2 x3 x4 M = some res) : VV G xX12_peeped (ZM G xX12_peeped (some (.long (eJ res.1))) L0 res.2) L0 M 0 0 0 [(0, .ref (gA G a0)), (1, .int (eI x1)), (2, .int (eI x2)), (3, .int (eI x3)), (4, .int (eI x4))] [] := by
  unfold sX12_peeped_b0 at h
  refine r_aload_n (pc := 0) (i := 0) dX12_peeped_0 rfl 0 rfl ?_
  refine r_iconst (pc := 1) (v := 0) dX12_peeped_1 (by decide +kernel) ?_
  obtain ⟨M_1, hM_1, h⟩ := ob h
  refine r_putI (pc := 2) fg_12_97 rfl oa0 hM_1 rfl rfl dX12_peeped_2 ?_
  refine r_iload_n (pc := 5) (i := 2) dX12_peeped_5 rfl 2 rfl ?_
  refine r_iconst (pc := 6) (v := 0) dX12_peeped_6 (by decide +kernel) ?_
  refine r_bipush (pc := 7) (v := 10) dX12_peeped_7 (by decide +kernel) ?_
  refine r_cS (pc := 9) (Y := xX12_in) (As := [.int (eI x2), .int (eI 0), .int (eI 10)]) (rest := []) (v := (some (.int (eI (sX12_in x2 0 10))))) (st1 := [.int (eI (sX12_in x2 0 10))]) ck_X12_peeped_105 (kX12_in x2 0 10 M_1 ) rfl rfl (Nat.le_of_ble_eq_true rfl) ⟨rfl, rfl⟩ rfl dX12_peeped_9 ?_
  refine r_if_eq (pc := 12) (tgt := 33) dX12_peeped_12 (by decide) rfl (fun c_2 => ?_) (fun c_2 => ?_)
  · replace h := (if_pos c_2).symm.trans h
    refine r_sub (lv' := []) [] rfl ?_
    exact bX12_peeped_b33 a0 x1 x2 x3 x4 oa0 _ h
  · replace h := (if_neg c_2).symm.trans h
    refine r_iload_n (pc := 15) (i := 3) dX12_peeped_15 rfl 3 rfl ?_
    refine r_iconst (pc := 16) (v := 0) dX12_peeped_16 (by decide +kernel) ?_
    refine r_bipush (pc := 17) (v := 10) dX12_peeped_17 (by decide +kernel) ?_
    refine r_cS (pc := 19) (Y := xX12_in) (As := [.int (eI x3), .int (eI 0), .int (eI 10)]) (rest := []) (v := (some (.int (eI (sX12_in x3 0 10))))) (st1 := [.int (eI (sX12_in x3 0 10))]) ck_X12_peeped_105 (kX12_in x3 0 10 M_1 ) rfl rfl (Nat.le_of_ble_eq_true rfl) ⟨rfl, rfl⟩ rfl dX12_peeped_19 ?_
    refine r_if_eq (pc := 22) (tgt := 33) dX12_peeped_22 (by decide) rfl (fun c_3 => ?_) (fun c_3 => ?_)
    · replace h := (if_pos c_3).symm.trans h
      refine r_sub (lv' := []) [] rfl ?_
      exact bX12_peeped_b33 a0 x1 x2 x3 x4 oa0 _ h
    · replace h := (if_neg c_3).symm.trans h
      refine r_aload_n (pc := 25) (i := 0) dX12_peeped_25 rfl 0 rfl ?_
      refine r_iload_n (pc := 26) (i := 1) dX12_peeped_26 rfl 1 rfl ?_
      obtain ⟨q_4, hq_4, h⟩ := ob h
      refine r_cV (pc := 27) (Y := xX12_hasRecord) (As := [.int (eI x1)]) (rest := []) (v := (some (.int (eI (q_4.1))))) (st1 := [.int (eI (q_4.1))]) ck_X12_peeped_606 (kX12_hasRecord a0 x1 M_1 oa0 hq_4) oa0 rfl rfl rfl rfl (Nat.le_of_ble_eq_true rfl) ⟨rfl, rfl⟩ rfl dX12_peeped_27 ?_
      refine r_if_ne (pc := 30) (tgt := 37) dX12_peeped_30 (by decide) rfl (fun c_5 => ?_) (fun c_5 => ?_)
      · replace h := (if_neg c_5).symm.trans h
        refine r_aload_n (pc := 37) (i := 0) dX12_peeped_37 rfl 0 rfl ?_
        obtain ⟨q_6, hq_6, h⟩ := ob h
        refine r_cV (pc := 38) (Y := xX12_hits) (As := []) (rest := []) (v := (some (.int (eI q_6)))) (st1 := [.int (eI q_6)]) ck_X12_peeped_609 (kX12_hits a0 q_4.2 oa0 hq_6) oa0 rfl rfl rfl rfl (Nat.le_of_ble_eq_true rfl) ⟨rfl, rfl⟩ rfl dX12_peeped_38 ?_
        refine r_istore (pc := 41) (lv' := [(5, .int (eI q_6)), (0, .ref (gA G a0)), (1, .int (eI x1)), (2, .int (eI x2)), (3, .int (eI x3)), (4, .int (eI x4))]) dX12_peeped_41 (Nat.le_of_ble_eq_true rfl) rfl ?_
        refine r_aload_n (pc := 43) (i := 0) dX12_peeped_43 rfl 1 rfl ?_
        refine r_iconst (pc := 44) (v := 1) dX12_peeped_44 (by decide +kernel) ?_
        obtain ⟨q_7, hq_7, h⟩ := ob h
        refine r_cV (pc := 45) (Y := xX12_ofRecord) (As := [.int (eI 1)]) (rest := []) (v := (some (.int (eI q_7)))) (st1 := [.int (eI q_7)]) ck_X12_peeped_599 (kX12_ofRecord a0 1 q_4.2 oa0 hq_7) oa0 rfl rfl rfl rfl (Nat.le_of_ble_eq_true rfl) ⟨rfl, rfl⟩ rfl dX12_peeped_45 ?_
        refine r_iload (pc := 48) dX12_peeped_48 0 rfl ?_
        refine r_isub (pc := 50) dX12_peeped_50 ?_
        refine r_istore (pc := 51) (lv' := [(6, .int (eI (q_7 - q_6))), (5, .int (eI q_6)), (0, .ref (gA G a0)), (1, .int (eI x1)), (2, .int (eI x2)), (3, .int (eI x3)), (4, .int (eI x4))]) dX12_peeped_51 (Nat.le_of_ble_eq_true rfl) rfl ?_
        refine r_iload_n (pc := 53) (i := 2) dX12_peeped_53 rfl 4 rfl ?_
        refine r_iload (pc := 54) dX12_peeped_54 1 rfl ?_
        obtain ⟨q_8, hq_8, h⟩ := ob h
        refine r_cS (pc := 56) (Y := xX12_power) (As := [.int (eI x2), .int (eI q_6)]) (rest := []) (v := (some (.long (eJ q_8)))) (st1 := [.long (eJ q_8)]) ck_X12_peeped_615 (kX12_power x2 q_6 q_4.2  hq_8) rfl rfl (Nat.le_of_ble_eq_true rfl) ⟨rfl, rfl⟩ rfl dX12_peeped_56 ?_
        refine r_bipush (pc := 59) (v := 10) dX12_peeped_59 (by decide +kernel) ?_
        refine r_iload_n (pc := 61) (i := 2) dX12_peeped_61 rfl 4 rfl ?_
        refine r_isub (pc := 62) dX12_peeped_62 ?_
        refine r_iload (pc := 63) dX12_peeped_63 0 rfl ?_
        obtain ⟨q_9, hq_9, h⟩ := ob h
        refine r_cS (pc := 65) (Y := xX12_power) (As := [.int (eI (10 - x2)), .int (eI (q_7 - q_6))]) (rest := [.long (eJ q_8)]) (v := (some (.long (eJ q_9)))) (st1 := [.long (eJ q_9), .long (eJ q_8)]) ck_X12_peeped_615 (kX12_power (10 - x2) (q_7 - q_6) q_4.2  hq_9) rfl rfl (Nat.le_of_ble_eq_true rfl) ⟨rfl, rfl⟩ rfl dX12_peeped_65 ?_
        refine r_lmul (pc := 68) dX12_peeped_68 ?_
        refine r_lstore (pc := 69) (lv' := [(7, .long (eJ (q_8 * q_9))), (6, .int (eI (q_7 - q_6))), (5, .int (eI q_6)), (0, .ref (gA G a0)), (1, .int (eI x1)), (2, .int (eI x2)), (3, .int (eI x3)), (4, .int (eI x4))]) dX12_peeped_69 (Nat.le_of_ble_eq_true rfl) rfl ?_
        refine r_iload_n (pc := 71) (i := 3) dX12_peeped_71 rfl 6 rfl ?_
        refine r_iload (pc := 72) dX12_peeped_72 2 rfl ?_
        obtain ⟨q_10, hq_10, h⟩ := ob h
        refine r_cS (pc := 74) (Y := xX12_power) (As := [.int (eI x3), .int (eI q_6)]) (rest := []) (v := (some (.long (eJ q_10)))) (st1 := [.long (eJ q_10)]) ck_X12_peeped_615 (kX12_power x3 q_6 q_4.2  hq_10) rfl rfl (Nat.le_of_ble_eq_true rfl) ⟨rfl, rfl⟩ rfl dX12_peeped_74 ?_
        refine r_bipush (pc := 77) (v := 10) dX12_peeped_77 (by decide +kernel) ?_
        refine r_iload_n (pc := 79) (i := 3) dX12_peeped_79 rfl 6 rfl ?_
        refine r_isub (pc := 80) dX12_peeped_80 ?_
        refine r_iload (pc := 81) dX12_peeped_81 1 rfl ?_
        obtain ⟨q_11, hq_11, h⟩ := ob h
        refine r_cS (pc := 83) (Y := xX12_power) (As := [.int (eI (10 - x3)), .int (eI (q_7 - q_6))]) (rest := [.long (eJ q_10)]) (v := (some (.long (eJ q_11)))) (st1 := [.long (eJ q_11), .long (eJ q_10)]) ck_X12_peeped_615 (kX12_power (10 - x3) (q_7 - q_6) q_4.2  hq_11) rfl rfl (Nat.le_of_ble_eq_true rfl) ⟨rfl, rfl⟩ rfl dX12_peeped_83 ?_
        refine r_lmul (pc := 86) dX12_peeped_86 ?_
        refine r_lstore (pc := 87) (lv' := [(9, .long (eJ (q_10 * q_11))), (7, .long (eJ (q_8 * q_9))), (6, .int (eI (q_7 - q_6))), (5, .int (eI q_6)), (0, .ref (gA G a0)), (1, .int (eI x1)), (2, .int (eI x2)), (3, .int (eI x3)), (4, .int (eI x4))]) dX12_peeped_87 (Nat.le_of_ble_eq_true rfl) rfl ?_
        refine r_lload (pc := 89) dX12_peeped_89 1 rfl ?_
        refine r_lload (pc := 91) dX12_peeped_91 0 rfl ?_
        refine r_ladd (pc := 93) dX12_peeped_93 ?_
        refine r_lconst (pc := 94) (v := 0) dX12_peeped_94 (by decide +kernel) ?_
        refine r_lcmp_ne (pc := 95) (tgt := 105) dX12_peeped_95 dX12_peeped_96 (by decide) rfl wj_0 (fun c_12 => ?_) (fun c_12 => ?_)
        · replace h := (if_neg c_12).symm.trans h
          refine r_lload (pc := 105) dX12_peeped_105 0 rfl ?_
          refine r_lload (pc := 107) dX12_peeped_107 1 rfl ?_
          refine r_lload (pc := 109) dX12_peeped_109 0 rfl ?_
          refine r_ladd (pc := 111) dX12_peeped_111 ?_
          refine r_iload (pc := 112) dX12_peeped_112 8 rfl ?_
          obtain ⟨q_13, hq_13, h⟩ := ob h
          refine r_cS (pc := 114) (Y := xX12_least) (As := [.long (eJ (q_10 * q_11)), .long (eJ ((q_8 * q_9) + (q_10 * q_11))), .int (eI x4)]) (rest := []) (v := (some (.long (eJ q_13)))) (st1 := [.long (eJ q_13)]) ck_X12_peeped_455 (kX12_least (q_10 * q_11) ((q_8 * q_9) + (q_10 * q_11)) x4 q_4.2  hq_13) rfl rfl (Nat.le_of_ble_eq_true rfl) ⟨rfl, rfl⟩ rfl dX12_peeped_114 ?_
          cases h
          exact r_lret (pc := 117) rfl (Nat.le_refl 0) (Nat.le_refl 0) dX12_peeped_117
        · replace h := (if_pos c_12).symm.trans h
          refine r_ldc2 (pc := 99) (v := (-1)) kc_12_459 dX12_peeped_99 ?_
          refine r_goto (pc := 102) (tgt := 117) dX12_peeped_102 (by decide) ?_
          cases h
          exact r_lret (pc := 117) rfl (Nat.le_refl 0) (Nat.le_refl 0) dX12_peeped_117
      · replace h := (if_pos c_5).symm.trans h
        refine r_sub (lv' := []) [] rfl ?_
        exact bX12_peeped_b33 a0 x1 x2 x3 x4 oa0 _ h
theorem kX12_peeped {G : GG} (a0 : Nat) (x1 : Int) (x2 : Int) (x3 : Int) (x4 : Int) (M : MM) {res : (Int × MM)} (oa0 : OB L0 a0 12) (h : sX12_peeped a0 x1 x2 x3 x4 M = some res) : CO G xX12_peeped [.ref (gA G a0), .int (eI x1), .int (eI x2), .int (eI x3), .int (eI x4)] L0 M (some (.long (eJ res.1))) L0 res.2 := CO_of (by decide +kernel) (Nat.le_of_ble_eq_true rfl) (bX12_peeped_b0 a0 x1 x2 x3 x4 oa0 M h)
