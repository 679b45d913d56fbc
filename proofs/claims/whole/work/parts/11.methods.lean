abbrev xX4_swapInRow : XX := (yX4_swapInRow, cX4_swapInRow, 4, none, 0, 0, 0, 0)
def sX4_swapInRow_b0 (a0 : Nat) (x1 : Int) (x2 : Int)   (M : MM) : Option MM := (if wI x1 < 0 then (some (M)) else (if 8 ≤ wI x1 then (some (M)) else (if wI x2 < 0 then (some (M)) else (if 8 ≤ wI x2 then (some (M)) else (if 0 ≤ wI x1 ∧ wI x1 < 8 then (if 0 ≤ wI x2 ∧ wI x2 < 8 then (if 0 ≤ wI x1 ∧ wI x1 < 8 then ((some (mU M (gR a0 0) (wI x1).toNat (M (gR a0 0) (wI x2).toNat))).bind fun M_11 => (if 0 ≤ wI x2 ∧ wI x2 < 8 then ((some (mU M_11 (gR a0 0) (wI x2).toNat (M (gR a0 0) (wI x1).toNat))).bind fun M_14 => (some (M_14))) else none)) else none) else none) else none)))))
def sX4_swapInRow (a0 : Nat) (x1 : Int) (x2 : Int) (M : MM) : Option MM := sX4_swapInRow_b0 a0 x1 x2 M
set_option maxHeartbeats 4000000 in
set_option maxRecDepth 100000 in
theorem bX4_swapInRow_b0 {G : GG} (a0 : Nat) (x1 : Int) (x2 : Int) (oa0 : OB L0 a0 4)  (M : MM) {res : MM}  (h : sX4_swapInRow_b0 a0 x1 x2 M = some res) : VV G xX4_swapInRow (ZM G xX4_swapInRow (none) L0 res) L0 M 0 0 0 [(0, .ref (gA G a0)), (1, .int (eI x1)), (2, .int (eI x2))] [] := by
  unfold sX4_swapInRow_b0 at h
  refine r_iload_n (pc := 0) (i := 1) dX4_swapInRow_0 rfl 1 rfl ?_
  refine r_if_lt (pc := 1) (tgt := 46) dX4_swapInRow_1 (by decide) rfl (fun c_1 => ?_) (fun c_1 => ?_)
  · replace h := (if_pos c_1).symm.trans h
    cases h
    exact r_vret (pc := 46) rfl (Nat.le_refl 0) (Nat.le_refl 0) dX4_swapInRow_46
  · replace h := (if_neg c_1).symm.trans h
    refine r_iload_n (pc := 4) (i := 1) dX4_swapInRow_4 rfl 1 rfl ?_
    refine r_bipush (pc := 5) (v := 8) dX4_swapInRow_5 (by decide +kernel) ?_
    refine r_icmp_ge (pc := 7) (tgt := 46) dX4_swapInRow_7 (by decide) rfl wl_8 (fun c_2 => ?_) (fun c_2 => ?_)
    · replace h := (if_pos c_2).symm.trans h
      cases h
      exact r_vret (pc := 46) rfl (Nat.le_refl 0) (Nat.le_refl 0) dX4_swapInRow_46
    · replace h := (if_neg c_2).symm.trans h
      refine r_iload_n (pc := 10) (i := 2) dX4_swapInRow_10 rfl 2 rfl ?_
      refine r_if_lt (pc := 11) (tgt := 46) dX4_swapInRow_11 (by decide) rfl (fun c_3 => ?_) (fun c_3 => ?_)
      · replace h := (if_pos c_3).symm.trans h
        cases h
        exact r_vret (pc := 46) rfl (Nat.le_refl 0) (Nat.le_refl 0) dX4_swapInRow_46
      · replace h := (if_neg c_3).symm.trans h
        refine r_iload_n (pc := 14) (i := 2) dX4_swapInRow_14 rfl 2 rfl ?_
        refine r_bipush (pc := 15) (v := 8) dX4_swapInRow_15 (by decide +kernel) ?_
        refine r_icmp_ge (pc := 17) (tgt := 46) dX4_swapInRow_17 (by decide) rfl wl_8 (fun c_4 => ?_) (fun c_4 => ?_)
        · replace h := (if_pos c_4).symm.trans h
          cases h
          exact r_vret (pc := 46) rfl (Nat.le_refl 0) (Nat.le_refl 0) dX4_swapInRow_46
        · replace h := (if_neg c_4).symm.trans h
          refine r_aload_n (pc := 20) (i := 0) dX4_swapInRow_20 rfl 0 rfl ?_
          have o_5 := (wt_4_0 oa0).2
          refine r_getR (pc := 21) fg_4_9 rfl oa0 (wt_4_0 oa0).1 dX4_swapInRow_21 ?_
          refine r_iload_n (pc := 24) (i := 1) dX4_swapInRow_24 rfl 1 rfl ?_
          obtain ⟨c_6, h⟩ := og h
          refine r_iald (pc := 25) o_5 rfl c_6 rfl dX4_swapInRow_25 ?_
          refine r_istore_n (pc := 26) (i := 3) (lv' := [(3, .int (eI (M (gR a0 0) (wI x1).toNat))), (0, .ref (gA G a0)), (1, .int (eI x1)), (2, .int (eI x2))]) dX4_swapInRow_26 rfl (Nat.le_of_ble_eq_true rfl) rfl ?_
          refine r_aload_n (pc := 27) (i := 0) dX4_swapInRow_27 rfl 1 rfl ?_
          have o_7 := (wt_4_0 oa0).2
          refine r_getR (pc := 28) fg_4_9 rfl oa0 (wt_4_0 oa0).1 dX4_swapInRow_28 ?_
          refine r_iload_n (pc := 31) (i := 1) dX4_swapInRow_31 rfl 2 rfl ?_
          refine r_aload_n (pc := 32) (i := 0) dX4_swapInRow_32 rfl 1 rfl ?_
          have o_8 := (wt_4_0 oa0).2
          refine r_getR (pc := 33) fg_4_9 rfl oa0 (wt_4_0 oa0).1 dX4_swapInRow_33 ?_
          refine r_iload_n (pc := 36) (i := 2) dX4_swapInRow_36 rfl 3 rfl ?_
          obtain ⟨c_9, h⟩ := og h
          refine r_iald (pc := 37) o_8 rfl c_9 rfl dX4_swapInRow_37 ?_
          obtain ⟨c_10, h⟩ := og h
          obtain ⟨M_11, hM_11, h⟩ := ob h
          refine r_iast (pc := 38) o_7 rfl c_10 rfl hM_11 dX4_swapInRow_38 ?_
          refine r_aload_n (pc := 39) (i := 0) dX4_swapInRow_39 rfl 1 rfl ?_
          have o_12 := (wt_4_0 oa0).2
          refine r_getR (pc := 40) fg_4_9 rfl oa0 (wt_4_0 oa0).1 dX4_swapInRow_40 ?_
          refine r_iload_n (pc := 43) (i := 2) dX4_swapInRow_43 rfl 3 rfl ?_
          refine r_iload_n (pc := 44) (i := 3) dX4_swapInRow_44 rfl 0 rfl ?_
          obtain ⟨c_13, h⟩ := og h
          obtain ⟨M_14, hM_14, h⟩ := ob h
          refine r_iast (pc := 45) o_12 rfl c_13 rfl hM_14 dX4_swapInRow_45 ?_
          cases h
          exact r_vret (pc := 46) rfl (Nat.le_refl 0) (Nat.le_refl 0) dX4_swapInRow_46
theorem kX4_swapInRow {G : GG} (a0 : Nat) (x1 : Int) (x2 : Int) (M : MM) {res : MM} (oa0 : OB L0 a0 4) (h : sX4_swapInRow a0 x1 x2 M = some res) : CO G xX4_swapInRow [.ref (gA G a0), .int (eI x1), .int (eI x2)] L0 M (none) L0 res := CO_of (by decide +kernel) (Nat.le_of_ble_eq_true rfl) (bX4_swapInRow_b0 a0 x1 x2 oa0 M h)
abbrev xX4_toNextRow : XX := (yX4_toNextRow, cX4_toNextRow, 6, (some .boolean), 1, 23, 0, 0)
theorem ck_X4_toNextRow_112 : CKV xX4_toNextRow 112 xX4_swapInRow 2 := ⟨⟨tb_i 1155 (by decide +kernel) (by decide +kernel), tb_i 149 (by decide +kernel) (by decide +kernel), tb_i 1158 (by decide +kernel) (by decide +kernel), ⟨by decide +kernel, by decide +kernel, by decide +kernel⟩, by decide, by decide⟩, tb_i 1157 (by decide +kernel) (by decide +kernel), tb_i 36 (by decide +kernel) (by decide +kernel)⟩
def sX4_toNextRow_b92 (a0 : Nat) (a1 : Nat)  : Nat → Int → Int → MM → Option (Int × MM)
  | 0, _, _, _ => none
  | n + 1, x4, x5, M => (if wI x5 ≤ wI x4 then (some ((1, M))) else ((sX4_swapInRow a0 x4 x5 M).bind fun q_2 => ((some (x4 + 1)).bind fun v_3 => ((some (x5 + (-1))).bind fun v_4 => (sX4_toNextRow_b92 a0 a1 n v_3 v_4 q_2)))))
def sX4_toNextRow_b73 (a0 : Nat) (a1 : Nat)  (x2 : Int) (x3 : Int) (M : MM) : Option (Int × MM) := ((sX4_swapInRow a0 x2 x3 M).bind fun q_1 => (sX4_toNextRow_b92 a0 a1 FU (x2 + 1) ((q_1 a1 3) - 1) q_1))
def sX4_toNextRow_b47 (a0 : Nat) (a1 : Nat)  : Nat → Int → Int → MM → Option (Int × MM)
  | 0, _, _, _ => none
  | n + 1, x2, x3, M => (if wI x3 ≤ wI x2 then (sX4_toNextRow_b73 a0 a1 x2 x3 M) else (if 0 ≤ wI x3 ∧ wI x3 < 8 then (if 0 ≤ wI x2 ∧ wI x2 < 8 then (if wI (M (gR a0 0) (wI x2).toNat) ≤ wI (M (gR a0 0) (wI x3).toNat) then (sX4_toNextRow_b73 a0 a1 x2 x3 M) else ((some (x3 + (-1))).bind fun v_7 => (sX4_toNextRow_b47 a0 a1 n x2 v_7 M))) else none) else none))
def sX4_toNextRow_b34 (a0 : Nat) (a1 : Nat)  (x2 : Int) (M : MM) : Option (Int × MM) := (if 0 ≤ wI x2 then (sX4_toNextRow_b47 a0 a1 FU x2 ((M a1 3) - 1) M) else (some ((0, M))))
def sX4_toNextRow_b7 (a0 : Nat) (a1 : Nat)  : Nat → Int → MM → Option (Int × MM)
  | 0, _, _ => none
  | n + 1, x2, M => (if wI x2 < 0 then (sX4_toNextRow_b34 a0 a1 x2 M) else (if 0 ≤ wI x2 ∧ wI x2 < 8 then (if 0 ≤ wI (x2 + 1) ∧ wI (x2 + 1) < 8 then (if wI (M (gR a0 0) (wI x2).toNat) ≤ wI (M (gR a0 0) (wI (x2 + 1)).toNat) then (sX4_toNextRow_b34 a0 a1 x2 M) else ((some (x2 + (-1))).bind fun v_7 => (sX4_toNextRow_b7 a0 a1 n v_7 M))) else none) else none))
def sX4_toNextRow_b0 (a0 : Nat) (a1 : Nat)   (M : MM) : Option (Int × MM) := (sX4_toNextRow_b7 a0 a1 FU ((M a1 3) - 2) M)
def sX4_toNextRow (a0 : Nat) (a1 : Nat) (M : MM) : Option (Int × MM) := sX4_toNextRow_b0 a0 a1 M
set_option maxHeartbeats 4000000 in
set_option maxRecDepth 100000 in
theorem bX4_toNextRow_b92 {G : GG} (a0 : Nat) (a1 : Nat) (oa0 : OB L0 a0 4) (oa1 : OB L0 a1 5) {res : (Int × MM)} : ∀ (n : Nat) (x4 : Int) (x5 : Int) (M : MM)  (h : sX4_toNextRow_b92 a0 a1 n x4 x5 M = some res), VV G xX4_toNextRow (ZM G xX4_toNextRow (some (.int (eI res.1))) L0 res.2) L0 M 0 0 92 [(0, .ref (gA G a0)), (4, .int (eI x4)), (5, .int (eI x5))] [] := by
  intro n
  induction n with
  | zero =>
    intro x4 x5 M h
    rw [sX4_toNextRow_b92] at h
    cases h
  | succ n ih =>
    intro x4 x5 M h
    rw [sX4_toNextRow_b92] at h
    refine r_iload (pc := 92) dX4_toNextRow_92 1 rfl ?_
    refine r_iload (pc := 94) dX4_toNextRow_94 2 rfl ?_
    refine r_icmp_ge (pc := 96) (tgt := 116) dX4_toNextRow_96 (by decide) rfl rfl (fun c_1 => ?_) (fun c_1 => ?_)
    · replace h := (if_pos c_1).symm.trans h
      refine r_iconst (pc := 116) (v := 1) dX4_toNextRow_116 (by decide +kernel) ?_
      cases h
      exact r_iret (pc := 117) rfl (zn_ok (Or.inr rfl)).1 (Nat.le_refl 0) (Nat.le_refl 0) dX4_toNextRow_117
    · replace h := (if_neg c_1).symm.trans h
      refine r_aload_n (pc := 99) (i := 0) dX4_toNextRow_99 rfl 0 rfl ?_
      refine r_iload (pc := 100) dX4_toNextRow_100 1 rfl ?_
      refine r_iload (pc := 102) dX4_toNextRow_102 2 rfl ?_
      obtain ⟨q_2, hq_2, h⟩ := ob h
      refine r_cV (pc := 104) (Y := xX4_swapInRow) (As := [.int (eI x4), .int (eI x5)]) (rest := []) (v := none) (st1 := []) ck_X4_toNextRow_112 (kX4_swapInRow a0 x4 x5 M oa0 hq_2) oa0 rfl rfl rfl rfl (Nat.le_of_ble_eq_true rfl) ⟨rfl, rfl⟩ rfl dX4_toNextRow_104 ?_
      obtain ⟨v_3, hv_3, h⟩ := ob h
      refine r_iinc (pc := 107) (y := v_3) (lv' := [(4, .int (eI v_3)), (0, .ref (gA G a0)), (5, .int (eI x5))]) dX4_toNextRow_107 1 rfl (Option.some.inj hv_3) (Nat.le_of_ble_eq_true rfl) rfl ?_
      obtain ⟨v_4, hv_4, h⟩ := ob h
      refine r_iinc (pc := 110) (y := v_4) (lv' := [(5, .int (eI v_4)), (4, .int (eI v_3)), (0, .ref (gA G a0))]) dX4_toNextRow_110 2 rfl (Option.some.inj hv_4) (Nat.le_of_ble_eq_true rfl) rfl ?_
      refine r_goto (pc := 113) (tgt := 92) dX4_toNextRow_113 (by decide) ?_
      refine r_sub (lv' := [(0, .ref (gA G a0)), (4, .int (eI v_3)), (5, .int (eI v_4))]) [2, 1, 0] rfl ?_
      exact ih _ _ _ h
set_option maxHeartbeats 4000000 in
set_option maxRecDepth 100000 in
theorem bX4_toNextRow_b73 {G : GG} (a0 : Nat) (a1 : Nat) (oa0 : OB L0 a0 4) (oa1 : OB L0 a1 5) (x2 : Int) (x3 : Int) (M : MM) {res : (Int × MM)}  (h : sX4_toNextRow_b73 a0 a1 x2 x3 M = some res) : VV G xX4_toNextRow (ZM G xX4_toNextRow (some (.int (eI res.1))) L0 res.2) L0 M 0 0 73 [(0, .ref (gA G a0)), (1, .ref (gA G a1)), (2, .int (eI x2)), (3, .int (eI x3))] [] := by
  unfold sX4_toNextRow_b73 at h
  refine r_aload_n (pc := 73) (i := 0) dX4_toNextRow_73 rfl 0 rfl ?_
  refine r_iload_n (pc := 74) (i := 2) dX4_toNextRow_74 rfl 2 rfl ?_
  refine r_iload_n (pc := 75) (i := 3) dX4_toNextRow_75 rfl 3 rfl ?_
  obtain ⟨q_1, hq_1, h⟩ := ob h
  refine r_cV (pc := 76) (Y := xX4_swapInRow) (As := [.int (eI x2), .int (eI x3)]) (rest := []) (v := none) (st1 := []) ck_X4_toNextRow_112 (kX4_swapInRow a0 x2 x3 M oa0 hq_1) oa0 rfl rfl rfl rfl (Nat.le_of_ble_eq_true rfl) ⟨rfl, rfl⟩ rfl dX4_toNextRow_76 ?_
  refine r_iload_n (pc := 79) (i := 2) dX4_toNextRow_79 rfl 2 rfl ?_
  refine r_iconst (pc := 80) (v := 1) dX4_toNextRow_80 (by decide +kernel) ?_
  refine r_iadd (pc := 81) dX4_toNextRow_81 ?_
  refine r_istore (pc := 82) (lv' := [(4, .int (eI (x2 + 1))), (0, .ref (gA G a0)), (1, .ref (gA G a1)), (2, .int (eI x2)), (3, .int (eI x3))]) dX4_toNextRow_82 (Nat.le_of_ble_eq_true rfl) rfl ?_
  refine r_aload_n (pc := 84) (i := 1) dX4_toNextRow_84 rfl 2 rfl ?_
  refine r_getI (pc := 85) fg_4_28 rfl oa1 dX4_toNextRow_85 ?_
  refine r_iconst (pc := 88) (v := 1) dX4_toNextRow_88 (by decide +kernel) ?_
  refine r_isub (pc := 89) dX4_toNextRow_89 ?_
  refine r_istore (pc := 90) (lv' := [(5, .int (eI ((q_1 a1 3) - 1))), (4, .int (eI (x2 + 1))), (0, .ref (gA G a0)), (1, .ref (gA G a1)), (2, .int (eI x2)), (3, .int (eI x3))]) dX4_toNextRow_90 (Nat.le_of_ble_eq_true rfl) rfl ?_
  refine r_sub (lv' := [(0, .ref (gA G a0)), (4, .int (eI (x2 + 1))), (5, .int (eI ((q_1 a1 3) - 1)))]) [2, 1, 0] rfl ?_
  exact bX4_toNextRow_b92 a0 a1 oa0 oa1 _ _ _ _ h
set_option maxHeartbeats 4000000 in
set_option maxRecDepth 100000 in
theorem bX4_toNextRow_b47 {G : GG} (a0 : Nat) (a1 : Nat) (oa0 : OB L0 a0 4) (oa1 : OB L0 a1 5) {res : (Int × MM)} : ∀ (n : Nat) (x2 : Int) (x3 : Int) (M : MM)  (h : sX4_toNextRow_b47 a0 a1 n x2 x3 M = some res), VV G xX4_toNextRow (ZM G xX4_toNextRow (some (.int (eI res.1))) L0 res.2) L0 M 0 0 47 [(0, .ref (gA G a0)), (1, .ref (gA G a1)), (2, .int (eI x2)), (3, .int (eI x3))] [] := by
  intro n
  induction n with
  | zero =>
    intro x2 x3 M h
    rw [sX4_toNextRow_b47] at h
    cases h
  | succ n ih =>
    intro x2 x3 M h
    rw [sX4_toNextRow_b47] at h
    refine r_iload_n (pc := 47) (i := 3) dX4_toNextRow_47 rfl 3 rfl ?_
    refine r_iload_n (pc := 48) (i := 2) dX4_toNextRow_48 rfl 2 rfl ?_
    refine r_icmp_le (pc := 49) (tgt := 73) dX4_toNextRow_49 (by decide) rfl rfl (fun c_1 => ?_) (fun c_1 => ?_)
    · replace h := (if_pos c_1).symm.trans h
      refine r_sub (lv' := [(0, .ref (gA G a0)), (1, .ref (gA G a1)), (2, .int (eI x2)), (3, .int (eI x3))]) [0, 1, 2, 3] rfl ?_
      exact bX4_toNextRow_b73 a0 a1 oa0 oa1 _ _ _ h
    · replace h := (if_neg c_1).symm.trans h
      refine r_aload_n (pc := 52) (i := 0) dX4_toNextRow_52 rfl 0 rfl ?_
      have o_2 := (wt_4_0 oa0).2
      refine r_getR (pc := 53) fg_4_9 rfl oa0 (wt_4_0 oa0).1 dX4_toNextRow_53 ?_
      refine r_iload_n (pc := 56) (i := 3) dX4_toNextRow_56 rfl 3 rfl ?_
      obtain ⟨c_3, h⟩ := og h
      refine r_iald (pc := 57) o_2 rfl c_3 rfl dX4_toNextRow_57 ?_
      refine r_aload_n (pc := 58) (i := 0) dX4_toNextRow_58 rfl 0 rfl ?_
      have o_4 := (wt_4_0 oa0).2
      refine r_getR (pc := 59) fg_4_9 rfl oa0 (wt_4_0 oa0).1 dX4_toNextRow_59 ?_
      refine r_iload_n (pc := 62) (i := 2) dX4_toNextRow_62 rfl 2 rfl ?_
      obtain ⟨c_5, h⟩ := og h
      refine r_iald (pc := 63) o_4 rfl c_5 rfl dX4_toNextRow_63 ?_
      refine r_icmp_ge (pc := 64) (tgt := 73) dX4_toNextRow_64 (by decide) rfl rfl (fun c_6 => ?_) (fun c_6 => ?_)
      · replace h := (if_pos c_6).symm.trans h
        refine r_sub (lv' := [(0, .ref (gA G a0)), (1, .ref (gA G a1)), (2, .int (eI x2)), (3, .int (eI x3))]) [0, 1, 2, 3] rfl ?_
        exact bX4_toNextRow_b73 a0 a1 oa0 oa1 _ _ _ h
      · replace h := (if_neg c_6).symm.trans h
        obtain ⟨v_7, hv_7, h⟩ := ob h
        refine r_iinc (pc := 67) (y := v_7) (lv' := [(3, .int (eI v_7)), (0, .ref (gA G a0)), (1, .ref (gA G a1)), (2, .int (eI x2))]) dX4_toNextRow_67 3 rfl (Option.some.inj hv_7) (Nat.le_of_ble_eq_true rfl) rfl ?_
        refine r_goto (pc := 70) (tgt := 47) dX4_toNextRow_70 (by decide) ?_
        refine r_sub (lv' := [(0, .ref (gA G a0)), (1, .ref (gA G a1)), (2, .int (eI x2)), (3, .int (eI v_7))]) [1, 2, 3, 0] rfl ?_
        exact ih _ _ _ h
set_option maxHeartbeats 4000000 in
set_option maxRecDepth 100000 in
theorem bX4_toNextRow_b34 {G : GG} (a0 : Nat) (a1 : Nat) (oa0 : OB L0 a0 4) (oa1 : OB L0 a1 5) (x2 : Int) (M : MM) {res : (Int × MM)}  (h : sX4_toNextRow_b34 a0 a1 x2 M = some res) : VV G xX4_toNextRow (ZM G xX4_toNextRow (some (.int (eI res.1))) L0 res.2) L0 M 0 0 34 [(0, .ref (gA G a0)), (1, .ref (gA G a1)), (2, .int (eI x2))] [] := by
  unfold sX4_toNextRow_b34 at h
  refine r_iload_n (pc := 34) (i := 2) dX4_toNextRow_34 rfl 2 rfl ?_
  refine r_if_ge (pc := 35) (tgt := 40) dX4_toNextRow_35 (by decide) rfl (fun c_1 => ?_) (fun c_1 => ?_)
  · replace h := (if_pos c_1).symm.trans h
    refine r_aload_n (pc := 40) (i := 1) dX4_toNextRow_40 rfl 1 rfl ?_
    refine r_getI (pc := 41) fg_4_28 rfl oa1 dX4_toNextRow_41 ?_
    refine r_iconst (pc := 44) (v := 1) dX4_toNextRow_44 (by decide +kernel) ?_
    refine r_isub (pc := 45) dX4_toNextRow_45 ?_
    refine r_istore_n (pc := 46) (i := 3) (lv' := [(3, .int (eI ((M a1 3) - 1))), (0, .ref (gA G a0)), (1, .ref (gA G a1)), (2, .int (eI x2))]) dX4_toNextRow_46 rfl (Nat.le_of_ble_eq_true rfl) rfl ?_
    refine r_sub (lv' := [(0, .ref (gA G a0)), (1, .ref (gA G a1)), (2, .int (eI x2)), (3, .int (eI ((M a1 3) - 1)))]) [1, 2, 3, 0] rfl ?_
    exact bX4_toNextRow_b47 a0 a1 oa0 oa1 _ _ _ _ h
  · replace h := (if_neg c_1).symm.trans h
    refine r_iconst (pc := 38) (v := 0) dX4_toNextRow_38 (by decide +kernel) ?_
    cases h
    exact r_iret (pc := 39) rfl (zn_ok (Or.inl rfl)).1 (Nat.le_refl 0) (Nat.le_refl 0) dX4_toNextRow_39
set_option maxHeartbeats 4000000 in
set_option maxRecDepth 100000 in
theorem bX4_toNextRow_b7 {G : GG} (a0 : Nat) (a1 : Nat) (oa0 : OB L0 a0 4) (oa1 : OB L0 a1 5) {res : (Int × MM)} : ∀ (n : Nat) (x2 : Int) (M : MM)  (h : sX4_toNextRow_b7 a0 a1 n x2 M = some res), VV G xX4_toNextRow (ZM G xX4_toNextRow (some (.int (eI res.1))) L0 res.2) L0 M 0 0 7 [(0, .ref (gA G a0)), (1, .ref (gA G a1)), (2, .int (eI x2))] [] := by
  intro n
  induction n with
  | zero =>
    intro x2 M h
    rw [sX4_toNextRow_b7] at h
    cases h
  | succ n ih =>
    intro x2 M h
    rw [sX4_toNextRow_b7] at h
    refine r_iload_n (pc := 7) (i := 2) dX4_toNextRow_7 rfl 2 rfl ?_
    refine r_if_lt (pc := 8) (tgt := 34) dX4_toNextRow_8 (by decide) rfl (fun c_1 => ?_) (fun c_1 => ?_)
    · replace h := (if_pos c_1).symm.trans h
      refine r_sub (lv' := [(0, .ref (gA G a0)), (1, .ref (gA G a1)), (2, .int (eI x2))]) [0, 1, 2] rfl ?_
      exact bX4_toNextRow_b34 a0 a1 oa0 oa1 _ _ h
    · replace h := (if_neg c_1).symm.trans h
      refine r_aload_n (pc := 11) (i := 0) dX4_toNextRow_11 rfl 0 rfl ?_
      have o_2 := (wt_4_0 oa0).2
      refine r_getR (pc := 12) fg_4_9 rfl oa0 (wt_4_0 oa0).1 dX4_toNextRow_12 ?_
      refine r_iload_n (pc := 15) (i := 2) dX4_toNextRow_15 rfl 2 rfl ?_
      obtain ⟨c_3, h⟩ := og h
      refine r_iald (pc := 16) o_2 rfl c_3 rfl dX4_toNextRow_16 ?_
      refine r_aload_n (pc := 17) (i := 0) dX4_toNextRow_17 rfl 0 rfl ?_
      have o_4 := (wt_4_0 oa0).2
      refine r_getR (pc := 18) fg_4_9 rfl oa0 (wt_4_0 oa0).1 dX4_toNextRow_18 ?_
      refine r_iload_n (pc := 21) (i := 2) dX4_toNextRow_21 rfl 2 rfl ?_
      refine r_iconst (pc := 22) (v := 1) dX4_toNextRow_22 (by decide +kernel) ?_
      refine r_iadd (pc := 23) dX4_toNextRow_23 ?_
      obtain ⟨c_5, h⟩ := og h
      refine r_iald (pc := 24) o_4 rfl c_5 rfl dX4_toNextRow_24 ?_
      refine r_icmp_le (pc := 25) (tgt := 34) dX4_toNextRow_25 (by decide) rfl rfl (fun c_6 => ?_) (fun c_6 => ?_)
      · replace h := (if_pos c_6).symm.trans h
        refine r_sub (lv' := [(0, .ref (gA G a0)), (1, .ref (gA G a1)), (2, .int (eI x2))]) [0, 1, 2] rfl ?_
        exact bX4_toNextRow_b34 a0 a1 oa0 oa1 _ _ h
      · replace h := (if_neg c_6).symm.trans h
        obtain ⟨v_7, hv_7, h⟩ := ob h
        refine r_iinc (pc := 28) (y := v_7) (lv' := [(2, .int (eI v_7)), (0, .ref (gA G a0)), (1, .ref (gA G a1))]) dX4_toNextRow_28 2 rfl (Option.some.inj hv_7) (Nat.le_of_ble_eq_true rfl) rfl ?_
        refine r_goto (pc := 31) (tgt := 7) dX4_toNextRow_31 (by decide) ?_
        refine r_sub (lv' := [(0, .ref (gA G a0)), (1, .ref (gA G a1)), (2, .int (eI v_7))]) [1, 2, 0] rfl ?_
        exact ih _ _ h
set_option maxHeartbeats 4000000 in
set_option maxRecDepth 100000 in
theorem bX4_toNextRow_b0 {G : GG} (a0 : Nat) (a1 : Nat) (oa0 : OB L0 a0 4) (oa1 : OB L0 a1 5)  (M : MM) {res : (Int × MM)}  (h : sX4_toNextRow_b0 a0 a1 M = some res) : VV G xX4_toNextRow (ZM G xX4_toNextRow (some (.int (eI res.1))) L0 res.2) L0 M 0 0 0 [(0, .ref (gA G a0)), (1, .ref (gA G a1))] [] := by
  unfold sX4_toNextRow_b0 at h
  refine r_aload_n (pc := 0) (i := 1) dX4_toNextRow_0 rfl 1 rfl ?_
  refine r_getI (pc := 1) fg_4_28 rfl oa1 dX4_toNextRow_1 ?_
  refine r_iconst (pc := 4) (v := 2) dX4_toNextRow_4 (by decide +kernel) ?_
  refine r_isub (pc := 5) dX4_toNextRow_5 ?_
  refine r_istore_n (pc := 6) (i := 2) (lv' := [(2, .int (eI ((M a1 3) - 2))), (0, .ref (gA G a0)), (1, .ref (gA G a1))]) dX4_toNextRow_6 rfl (Nat.le_of_ble_eq_true rfl) rfl ?_
  refine r_sub (lv' := [(0, .ref (gA G a0)), (1, .ref (gA G a1)), (2, .int (eI ((M a1 3) - 2)))]) [1, 2, 0] rfl ?_
  exact bX4_toNextRow_b7 a0 a1 oa0 oa1 _ _ _ h
theorem kX4_toNextRow {G : GG} (a0 : Nat) (a1 : Nat) (M : MM) {res : (Int × MM)} (oa0 : OB L0 a0 4) (oa1 : OB L0 a1 5) (h : sX4_toNextRow a0 a1 M = some res) : CO G xX4_toNextRow [.ref (gA G a0), .ref (gA G a1)] L0 M (some (.int (eI res.1))) L0 res.2 := CO_of (by decide +kernel) (Nat.le_of_ble_eq_true rfl) (bX4_toNextRow_b0 a0 a1 oa0 oa1 M h)
abbrev xX4_fairest : XX := (yX4_fairest, cX4_fairest, 8, (some .int), 3, 79, 0, 0)
theorem ck_X4_fairest_44 : CKV xX4_fairest 44 xX4_holds 3 := ⟨⟨tb_i 1059 (by decide +kernel) (by decide +kernel), tb_i 149 (by decide +kernel) (by decide +kernel), tb_i 1062 (by decide +kernel) (by decide +kernel), ⟨by decide +kernel, by decide +kernel, by decide +kernel⟩, by decide, by decide⟩, tb_i 1061 (by decide +kernel) (by decide +kernel), tb_i 25 (by decide +kernel) (by decide +kernel)⟩
theorem ck_X4_fairest_87 : CKV xX4_fairest 87 xX4_ordersBy 2 := ⟨⟨tb_i 1138 (by decide +kernel) (by decide +kernel), tb_i 149 (by decide +kernel) (by decide +kernel), tb_i 1054 (by decide +kernel) (by decide +kernel), ⟨by decide +kernel, by decide +kernel, by decide +kernel⟩, by decide, by decide⟩, tb_i 1052 (by decide +kernel) (by decide +kernel), tb_i 1053 (by decide +kernel) (by decide +kernel)⟩
theorem ck_X4_fairest_91 : CKV xX4_fairest 91 xX4_orderOfRow 1 := ⟨⟨tb_i 1139 (by decide +kernel) (by decide +kernel), tb_i 149 (by decide +kernel) (by decide +kernel), tb_i 1142 (by decide +kernel) (by decide +kernel), ⟨by decide +kernel, by decide +kernel, by decide +kernel⟩, by decide, by decide⟩, tb_i 1141 (by decide +kernel) (by decide +kernel), tb_i 33 (by decide +kernel) (by decide +kernel)⟩
theorem ck_X4_fairest_95 : CKV xX4_fairest 95 xX4_gapOfRow 1 := ⟨⟨tb_i 1143 (by decide +kernel) (by decide +kernel), tb_i 149 (by decide +kernel) (by decide +kernel), tb_i 1146 (by decide +kernel) (by decide +kernel), ⟨by decide +kernel, by decide +kernel, by decide +kernel⟩, by decide, by decide⟩, tb_i 1145 (by decide +kernel) (by decide +kernel), tb_i 34 (by decide +kernel) (by decide +kernel)⟩
theorem ck_X4_fairest_99 : CKV xX4_fairest 99 xX4_toNextRow 1 := ⟨⟨tb_i 1151 (by decide +kernel) (by decide +kernel), tb_i 149 (by decide +kernel) (by decide +kernel), tb_i 1154 (by decide +kernel) (by decide +kernel), ⟨by decide +kernel, by decide +kernel, by decide +kernel⟩, by decide, by decide⟩, tb_i 1153 (by decide +kernel) (by decide +kernel), tb_i 35 (by decide +kernel) (by decide +kernel)⟩
def sX4_fairest_b106 (a0 : Nat) (a1 : Nat)  (x2 : Int) (M : MM) : Option (Int × MM) := (some ((x2, M)))
def sX4_fairest_b100 (a0 : Nat) (a1 : Nat) (K62 : Int → Int → Int → MM → Option (Int × MM)) (x2 : Int) (y3 : Int) (x5 : Int) (M : MM) : Option (Int × MM) := ((some (x5 + 1)).bind fun v_1 => (K62 x2 y3 v_1 M))
def sX4_fairest_b62 (a0 : Nat) (a1 : Nat)  : Nat → Int → Int → Int → MM → Option (Int × MM)
  | 0, _, _, _, _ => none
  | n + 1, x2, y3, x5, M => (if 120 ≤ wI x5 then (sX4_fairest_b106 a0 a1 x2 M) else ((sX4_toNextRow a0 a1 M).bind fun q_2 => (if wI (q_2.1) = 0 then (sX4_fairest_b106 a0 a1 x2 q_2.2) else ((sX4_gapOfRow a0 a1 q_2.2).bind fun q_4 => (if wJ y3 ≤ wJ q_4 then (sX4_fairest_b100 a0 a1 (fun x2 y3 x5 M => sX4_fairest_b62 a0 a1 n x2 y3 x5 M) x2 y3 x5 q_2.2) else ((sX4_orderOfRow a0 a1 q_2.2).bind fun q_6 => (sX4_fairest_b100 a0 a1 (fun x2 y3 x5 M => sX4_fairest_b62 a0 a1 n x2 y3 x5 M) q_6 q_4 x5 q_2.2)))))))
def sX4_fairest_b40 (a0 : Nat) (a1 : Nat)   (M : MM) : Option (Int × MM) := ((sX4_ordersBy a0 a1 (-1) M).bind fun q_1 => ((sX4_orderOfRow a0 a1 q_1.2).bind fun q_2 => ((sX4_gapOfRow a0 a1 q_1.2).bind fun q_3 => (sX4_fairest_b62 a0 a1 FU q_2 q_3 1 q_1.2))))
def sX4_fairest_b2 (a0 : Nat) (a1 : Nat)  : Nat → Int → MM → Option (Int × MM)
  | 0, _, _ => none
  | n + 1, x2, M => (if 0 ≤ wI (M a1 3) ∧ wI (M a1 3) < 32 then (if wI (1 * 2 ^ (wI (M a1 3)).toNat) ≤ wI x2 then (sX4_fairest_b40 a0 a1 M) else (if 32 ≤ wI x2 then (sX4_fairest_b40 a0 a1 M) else ((sX4_holds a0 a1 1 x2 M).bind fun q_6 => (if 0 ≤ wI x2 ∧ wI x2 < 32 then ((some (mU q_6.2 (gR a0 3) (wI x2).toNat (q_6.1))).bind fun M_8 => ((some (x2 + 1)).bind fun v_9 => (sX4_fairest_b2 a0 a1 n v_9 M_8))) else none)))) else none)
def sX4_fairest_b0 (a0 : Nat) (a1 : Nat)   (M : MM) : Option (Int × MM) := (sX4_fairest_b2 a0 a1 FU 0 M)
def sX4_fairest (a0 : Nat) (a1 : Nat) (M : MM) : Option (Int × MM) := sX4_fairest_b0 a0 a1 M
set_option maxHeartbeats 4000000 in
set_option maxRecDepth 100000 in
theorem bX4_fairest_b106 {G : GG} (a0 : Nat) (a1 : Nat) (oa0 : OB L0 a0 4) (oa1 : OB L0 a1 5) (x2 : Int) (M : MM) {res : (Int × MM)}  (h : sX4_fairest_b106 a0 a1 x2 M = some res) : VV G xX4_fairest (ZM G xX4_fairest (some (.int (eI res.1))) L0 res.2) L0 M 0 0 106 [(2, .int (eI x2))] [] := by
  unfold sX4_fairest_b106 at h
  refine r_iload_n (pc := 106) (i := 2) dX4_fairest_106 rfl 0 rfl ?_
  cases h
  exact r_iret (pc := 107) rfl rfl (Nat.le_refl 0) (Nat.le_refl 0) dX4_fairest_107
set_option maxHeartbeats 4000000 in
set_option maxRecDepth 100000 in
theorem bX4_fairest_b100 {G : GG} (a0 : Nat) (a1 : Nat) (oa0 : OB L0 a0 4) (oa1 : OB L0 a1 5) {K62 : Int → Int → Int → MM → Option (Int × MM)} (x2 : Int) (y3 : Int) (x5 : Int) (M : MM) {res : (Int × MM)} (hK62 : ∀ (x2 : Int) (y3 : Int) (x5 : Int) (M : MM), K62 x2 y3 x5 M = some res → VV G xX4_fairest (ZM G xX4_fairest (some (.int (eI res.1))) L0 res.2) L0 M 0 0 62 [(0, .ref (gA G a0)), (1, .ref (gA G a1)), (2, .int (eI x2)), (3, .long (eJ y3)), (5, .int (eI x5))] [])  (h : sX4_fairest_b100 a0 a1 K62 x2 y3 x5 M = some res) : VV G xX4_fairest (ZM G xX4_fairest (some (.int (eI res.1))) L0 res.2) L0 M 0 0 100 [(0, .ref (gA G a0)), (1, .ref (gA G a1)), (2, .int (eI x2)), (3, .long (eJ y3)), (5, .int (eI x5))] [] := by
  unfold sX4_fairest_b100 at h
  obtain ⟨v_1, hv_1, h⟩ := ob h
  refine r_iinc (pc := 100) (y := v_1) (lv' := [(5, .int (eI v_1)), (0, .ref (gA G a0)), (1, .ref (gA G a1)), (2, .int (eI x2)), (3, .long (eJ y3))]) dX4_fairest_100 4 rfl (Option.some.inj hv_1) (Nat.le_of_ble_eq_true rfl) rfl ?_
  refine r_goto (pc := 103) (tgt := 62) dX4_fairest_103 (by decide) ?_
  refine r_sub (lv' := [(0, .ref (gA G a0)), (1, .ref (gA G a1)), (2, .int (eI x2)), (3, .long (eJ y3)), (5, .int (eI v_1))]) [1, 2, 3, 4, 0] rfl ?_
  exact hK62 _ _ _ _ h
set_option maxHeartbeats 4000000 in
set_option maxRecDepth 100000 in
theorem bX4_fairest_b62 {G : GG} (a0 : Nat) (a1 : Nat) (oa0 : OB L0 a0 4) (oa1 : OB L0 a1 5) {res : (Int × MM)} : ∀ (n : Nat) (x2 : Int) (y3 : Int) (x5 : Int) (M : MM)  (h : sX4_fairest_b62 a0 a1 n x2 y3 x5 M = some res), VV G xX4_fairest (ZM G xX4_fairest (some (.int (eI res.1))) L0 res.2) L0 M 0 0 62 [(0, .ref (gA G a0)), (1, .ref (gA G a1)), (2, .int (eI x2)), (3, .long (eJ y3)), (5, .int (eI x5))] [] := by
  intro n
  induction n with
  | zero =>
    intro x2 y3 x5 M h
    rw [sX4_fairest_b62] at h
    cases h
  | succ n ih =>
    intro x2 y3 x5 M h
    rw [sX4_fairest_b62] at h
    refine r_iload (pc := 62) dX4_fairest_62 4 rfl ?_
    refine r_bipush (pc := 64) (v := 120) dX4_fairest_64 (by decide +kernel) ?_
    refine r_icmp_ge (pc := 66) (tgt := 106) dX4_fairest_66 (by decide) rfl wl_120 (fun c_1 => ?_) (fun c_1 => ?_)
    · replace h := (if_pos c_1).symm.trans h
      refine r_sub (lv' := [(2, .int (eI x2))]) [2] rfl ?_
      exact bX4_fairest_b106 a0 a1 oa0 oa1 _ _ h
    · replace h := (if_neg c_1).symm.trans h
      refine r_aload_n (pc := 69) (i := 0) dX4_fairest_69 rfl 0 rfl ?_
      refine r_aload_n (pc := 70) (i := 1) dX4_fairest_70 rfl 1 rfl ?_
      obtain ⟨q_2, hq_2, h⟩ := ob h
      refine r_cV (pc := 71) (Y := xX4_toNextRow) (As := [.ref (gA G a1)]) (rest := []) (v := (some (.int (eI (q_2.1))))) (st1 := [.int (eI (q_2.1))]) ck_X4_fairest_99 (kX4_toNextRow a0 a1 M oa0 oa1 hq_2) oa0 rfl rfl rfl rfl (Nat.le_of_ble_eq_true rfl) ⟨rfl, rfl⟩ rfl dX4_fairest_71 ?_
      refine r_if_eq (pc := 74) (tgt := 106) dX4_fairest_74 (by decide) rfl (fun c_3 => ?_) (fun c_3 => ?_)
      · replace h := (if_pos c_3).symm.trans h
        refine r_sub (lv' := [(2, .int (eI x2))]) [2] rfl ?_
        exact bX4_fairest_b106 a0 a1 oa0 oa1 _ _ h
      · replace h := (if_neg c_3).symm.trans h
        refine r_aload_n (pc := 77) (i := 0) dX4_fairest_77 rfl 0 rfl ?_
        refine r_aload_n (pc := 78) (i := 1) dX4_fairest_78 rfl 1 rfl ?_
        obtain ⟨q_4, hq_4, h⟩ := ob h
        refine r_cV (pc := 79) (Y := xX4_gapOfRow) (As := [.ref (gA G a1)]) (rest := []) (v := (some (.long (eJ q_4)))) (st1 := [.long (eJ q_4)]) ck_X4_fairest_95 (kX4_gapOfRow a0 a1 q_2.2 oa0 oa1 hq_4) oa0 rfl rfl rfl rfl (Nat.le_of_ble_eq_true rfl) ⟨rfl, rfl⟩ rfl dX4_fairest_79 ?_
        refine r_lstore (pc := 82) (lv' := [(6, .long (eJ q_4)), (0, .ref (gA G a0)), (1, .ref (gA G a1)), (2, .int (eI x2)), (3, .long (eJ y3)), (5, .int (eI x5))]) dX4_fairest_82 (Nat.le_of_ble_eq_true rfl) rfl ?_
        refine r_lload (pc := 84) dX4_fairest_84 0 rfl ?_
        refine r_lload_n (pc := 86) (i := 3) dX4_fairest_86 rfl 4 rfl ?_
        refine r_lcmp_ge (pc := 87) (tgt := 100) dX4_fairest_87 dX4_fairest_88 (by decide) rfl rfl (fun c_5 => ?_) (fun c_5 => ?_)
        · replace h := (if_pos c_5).symm.trans h
          refine r_sub (lv' := [(0, .ref (gA G a0)), (1, .ref (gA G a1)), (2, .int (eI x2)), (3, .long (eJ y3)), (5, .int (eI x5))]) [1, 2, 3, 4, 5] rfl ?_
          exact bX4_fairest_b100 a0 a1 oa0 oa1 _ _ _ _ (fun v0 v1 v2 v3 v4 => ih v0 v1 v2 v3 v4) h
        · replace h := (if_neg c_5).symm.trans h
          refine r_aload_n (pc := 91) (i := 0) dX4_fairest_91 rfl 1 rfl ?_
          refine r_aload_n (pc := 92) (i := 1) dX4_fairest_92 rfl 2 rfl ?_
          obtain ⟨q_6, hq_6, h⟩ := ob h
          refine r_cV (pc := 93) (Y := xX4_orderOfRow) (As := [.ref (gA G a1)]) (rest := []) (v := (some (.int (eI q_6)))) (st1 := [.int (eI q_6)]) ck_X4_fairest_91 (kX4_orderOfRow a0 a1 q_2.2 oa0 oa1 hq_6) oa0 rfl rfl rfl rfl (Nat.le_of_ble_eq_true rfl) ⟨rfl, rfl⟩ rfl dX4_fairest_93 ?_
          refine r_istore_n (pc := 96) (i := 2) (lv' := [(2, .int (eI q_6)), (6, .long (eJ q_4)), (0, .ref (gA G a0)), (1, .ref (gA G a1)), (3, .long (eJ y3)), (5, .int (eI x5))]) dX4_fairest_96 rfl (Nat.le_of_ble_eq_true rfl) rfl ?_
          refine r_lload (pc := 97) dX4_fairest_97 1 rfl ?_
          refine r_lstore_n (pc := 99) (i := 3) (lv' := [(3, .long (eJ q_4)), (2, .int (eI q_6)), (6, .long (eJ q_4)), (0, .ref (gA G a0)), (1, .ref (gA G a1)), (5, .int (eI x5))]) dX4_fairest_99 rfl (Nat.le_of_ble_eq_true rfl) rfl ?_
          refine r_sub (lv' := [(0, .ref (gA G a0)), (1, .ref (gA G a1)), (2, .int (eI q_6)), (3, .long (eJ q_4)), (5, .int (eI x5))]) [3, 4, 1, 0, 5] rfl ?_
          exact bX4_fairest_b100 a0 a1 oa0 oa1 _ _ _ _ (fun v0 v1 v2 v3 v4 => ih v0 v1 v2 v3 v4) h
set_option maxHeartbeats 4000000 in
set_option maxRecDepth 100000 in
theorem bX4_fairest_b40 {G : GG} (a0 : Nat) (a1 : Nat) (oa0 : OB L0 a0 4) (oa1 : OB L0 a1 5)  (M : MM) {res : (Int × MM)}  (h : sX4_fairest_b40 a0 a1 M = some res) : VV G xX4_fairest (ZM G xX4_fairest (some (.int (eI res.1))) L0 res.2) L0 M 0 0 40 [(0, .ref (gA G a0)), (1, .ref (gA G a1))] [] := by
  unfold sX4_fairest_b40 at h
  refine r_aload_n (pc := 40) (i := 0) dX4_fairest_40 rfl 0 rfl ?_
  refine r_aload_n (pc := 41) (i := 1) dX4_fairest_41 rfl 1 rfl ?_
  refine r_iconst (pc := 42) (v := (-1)) dX4_fairest_42 (by decide +kernel) ?_
  obtain ⟨q_1, hq_1, h⟩ := ob h
  refine r_cV (pc := 43) (Y := xX4_ordersBy) (As := [.ref (gA G a1), .int (eI (-1))]) (rest := []) (v := (some (.int (eI (q_1.1))))) (st1 := [.int (eI (q_1.1))]) ck_X4_fairest_87 (kX4_ordersBy a0 a1 (-1) M oa0 oa1 hq_1) oa0 rfl rfl rfl rfl (Nat.le_of_ble_eq_true rfl) ⟨rfl, rfl⟩ rfl dX4_fairest_43 ?_
  refine r_pop (pc := 46) dX4_fairest_46 rfl ?_
  refine r_aload_n (pc := 47) (i := 0) dX4_fairest_47 rfl 0 rfl ?_
  refine r_aload_n (pc := 48) (i := 1) dX4_fairest_48 rfl 1 rfl ?_
  obtain ⟨q_2, hq_2, h⟩ := ob h
  refine r_cV (pc := 49) (Y := xX4_orderOfRow) (As := [.ref (gA G a1)]) (rest := []) (v := (some (.int (eI q_2)))) (st1 := [.int (eI q_2)]) ck_X4_fairest_91 (kX4_orderOfRow a0 a1 q_1.2 oa0 oa1 hq_2) oa0 rfl rfl rfl rfl (Nat.le_of_ble_eq_true rfl) ⟨rfl, rfl⟩ rfl dX4_fairest_49 ?_
  refine r_istore_n (pc := 52) (i := 2) (lv' := [(2, .int (eI q_2)), (0, .ref (gA G a0)), (1, .ref (gA G a1))]) dX4_fairest_52 rfl (Nat.le_of_ble_eq_true rfl) rfl ?_
  refine r_aload_n (pc := 53) (i := 0) dX4_fairest_53 rfl 1 rfl ?_
  refine r_aload_n (pc := 54) (i := 1) dX4_fairest_54 rfl 2 rfl ?_
  obtain ⟨q_3, hq_3, h⟩ := ob h
  refine r_cV (pc := 55) (Y := xX4_gapOfRow) (As := [.ref (gA G a1)]) (rest := []) (v := (some (.long (eJ q_3)))) (st1 := [.long (eJ q_3)]) ck_X4_fairest_95 (kX4_gapOfRow a0 a1 q_1.2 oa0 oa1 hq_3) oa0 rfl rfl rfl rfl (Nat.le_of_ble_eq_true rfl) ⟨rfl, rfl⟩ rfl dX4_fairest_55 ?_
  refine r_lstore_n (pc := 58) (i := 3) (lv' := [(3, .long (eJ q_3)), (2, .int (eI q_2)), (0, .ref (gA G a0)), (1, .ref (gA G a1))]) dX4_fairest_58 rfl (Nat.le_of_ble_eq_true rfl) rfl ?_
  refine r_iconst (pc := 59) (v := 1) dX4_fairest_59 (by decide +kernel) ?_
  refine r_istore (pc := 60) (lv' := [(5, .int (eI 1)), (3, .long (eJ q_3)), (2, .int (eI q_2)), (0, .ref (gA G a0)), (1, .ref (gA G a1))]) dX4_fairest_60 (Nat.le_of_ble_eq_true rfl) rfl ?_
  refine r_sub (lv' := [(0, .ref (gA G a0)), (1, .ref (gA G a1)), (2, .int (eI q_2)), (3, .long (eJ q_3)), (5, .int (eI 1))]) [3, 4, 2, 1, 0] rfl ?_
  exact bX4_fairest_b62 a0 a1 oa0 oa1 _ _ _ _ _ h
set_option maxHeartbeats 4000000 in
set_option maxRecDepth 100000 in
theorem bX4_fairest_b2 {G : GG} (a0 : Nat) (a1 : Nat) (oa0 : OB L0 a0 4) (oa1 : OB L0 a1 5) {res : (Int × MM)} : ∀ (n : Nat) (x2 : Int) (M : MM)  (h : sX4_fairest_b2 a0 a1 n x2 M = some res), VV G xX4_fairest (ZM G xX4_fairest (some (.int (eI res.1))) L0 res.2) L0 M 0 0 2 [(0, .ref (gA G a0)), (1, .ref (gA G a1)), (2, .int (eI x2))] [] := by
  intro n
  induction n with
  | zero =>
    intro x2 M h
    rw [sX4_fairest_b2] at h
    cases h
  | succ n ih =>
    intro x2 M h
    rw [sX4_fairest_b2] at h
    refine r_iload_n (pc := 2) (i := 2) dX4_fairest_2 rfl 2 rfl ?_
    refine r_iconst (pc := 3) (v := 1) dX4_fairest_3 (by decide +kernel) ?_
    refine r_aload_n (pc := 4) (i := 1) dX4_fairest_4 rfl 1 rfl ?_
    refine r_getI (pc := 5) fg_4_28 rfl oa1 dX4_fairest_5 ?_
    obtain ⟨c_1, h⟩ := og h
    refine r_ishl (pc := 8) rfl c_1 dX4_fairest_8 ?_
    refine r_icmp_ge (pc := 9) (tgt := 40) dX4_fairest_9 (by decide) rfl rfl (fun c_2 => ?_) (fun c_2 => ?_)
    · replace h := (if_pos c_2).symm.trans h
      refine r_sub (lv' := [(0, .ref (gA G a0)), (1, .ref (gA G a1))]) [0, 1] rfl ?_
      exact bX4_fairest_b40 a0 a1 oa0 oa1 _ h
    · replace h := (if_neg c_2).symm.trans h
      refine r_iload_n (pc := 12) (i := 2) dX4_fairest_12 rfl 2 rfl ?_
      refine r_aload_n (pc := 13) (i := 0) dX4_fairest_13 rfl 0 rfl ?_
      have o_3 := (wt_4_3 oa0).2
      refine r_getR (pc := 14) fg_4_22 rfl oa0 (wt_4_3 oa0).1 dX4_fairest_14 ?_
      refine r_alen (pc := 17) (by decide) o_3 dX4_fairest_17 ?_
      refine r_icmp_ge (pc := 18) (tgt := 40) dX4_fairest_18 (by decide) rfl wl_32 (fun c_4 => ?_) (fun c_4 => ?_)
      · replace h := (if_pos c_4).symm.trans h
        refine r_sub (lv' := [(0, .ref (gA G a0)), (1, .ref (gA G a1))]) [0, 1] rfl ?_
        exact bX4_fairest_b40 a0 a1 oa0 oa1 _ h
      · replace h := (if_neg c_4).symm.trans h
        refine r_aload_n (pc := 21) (i := 0) dX4_fairest_21 rfl 0 rfl ?_
        have o_5 := (wt_4_3 oa0).2
        refine r_getR (pc := 22) fg_4_22 rfl oa0 (wt_4_3 oa0).1 dX4_fairest_22 ?_
        refine r_iload_n (pc := 25) (i := 2) dX4_fairest_25 rfl 2 rfl ?_
        refine r_aload_n (pc := 26) (i := 0) dX4_fairest_26 rfl 0 rfl ?_
        refine r_aload_n (pc := 27) (i := 1) dX4_fairest_27 rfl 1 rfl ?_
        refine r_iconst (pc := 28) (v := 1) dX4_fairest_28 (by decide +kernel) ?_
        refine r_iload_n (pc := 29) (i := 2) dX4_fairest_29 rfl 2 rfl ?_
        obtain ⟨q_6, hq_6, h⟩ := ob h
        refine r_cV (pc := 30) (Y := xX4_holds) (As := [.ref (gA G a1), .int (eI 1), .int (eI x2)]) (rest := [.int (eI x2), .ref (gA G (gR a0 3))]) (v := (some (.long (eJ (q_6.1))))) (st1 := [.long (eJ (q_6.1)), .int (eI x2), .ref (gA G (gR a0 3))]) ck_X4_fairest_44 (kX4_holds a0 a1 1 x2 M oa0 oa1 hq_6) oa0 rfl rfl rfl rfl (Nat.le_of_ble_eq_true rfl) ⟨rfl, rfl⟩ rfl dX4_fairest_30 ?_
        obtain ⟨c_7, h⟩ := og h
        obtain ⟨M_8, hM_8, h⟩ := ob h
        refine r_last (pc := 33) o_5 rfl c_7 rfl hM_8 dX4_fairest_33 ?_
        obtain ⟨v_9, hv_9, h⟩ := ob h
        refine r_iinc (pc := 34) (y := v_9) (lv' := [(2, .int (eI v_9)), (0, .ref (gA G a0)), (1, .ref (gA G a1))]) dX4_fairest_34 2 rfl (Option.some.inj hv_9) (Nat.le_of_ble_eq_true rfl) rfl ?_
        refine r_goto (pc := 37) (tgt := 2) dX4_fairest_37 (by decide) ?_
        refine r_sub (lv' := [(0, .ref (gA G a0)), (1, .ref (gA G a1)), (2, .int (eI v_9))]) [1, 2, 0] rfl ?_
        exact ih _ _ h
set_option maxHeartbeats 4000000 in
set_option maxRecDepth 100000 in
theorem bX4_fairest_b0 {G : GG} (a0 : Nat) (a1 : Nat) (oa0 : OB L0 a0 4) (oa1 : OB L0 a1 5)  (M : MM) {res : (Int × MM)}  (h : sX4_fairest_b0 a0 a1 M = some res) : VV G xX4_fairest (ZM G xX4_fairest (some (.int (eI res.1))) L0 res.2) L0 M 0 0 0 [(0, .ref (gA G a0)), (1, .ref (gA G a1))] [] := by
  unfold sX4_fairest_b0 at h
  refine r_iconst (pc := 0) (v := 0) dX4_fairest_0 (by decide +kernel) ?_
  refine r_istore_n (pc := 1) (i := 2) (lv' := [(2, .int (eI 0)), (0, .ref (gA G a0)), (1, .ref (gA G a1))]) dX4_fairest_1 rfl (Nat.le_of_ble_eq_true rfl) rfl ?_
  refine r_sub (lv' := [(0, .ref (gA G a0)), (1, .ref (gA G a1)), (2, .int (eI 0))]) [1, 2, 0] rfl ?_
  exact bX4_fairest_b2 a0 a1 oa0 oa1 _ _ _ h
theorem kX4_fairest {G : GG} (a0 : Nat) (a1 : Nat) (M : MM) {res : (Int × MM)} (oa0 : OB L0 a0 4) (oa1 : OB L0 a1 5) (h : sX4_fairest a0 a1 M = some res) : CO G xX4_fairest [.ref (gA G a0), .ref (gA G a1)] L0 M (some (.int (eI res.1))) L0 res.2 := CO_of (by decide +kernel) (Nat.le_of_ble_eq_true rfl) (bX4_fairest_b0 a0 a1 oa0 oa1 M h)
abbrev xX4_bestLayers : XX := (yX4_bestLayers, cX4_bestLayers, 10, (some .int), 3, 79, 0, 0)
theorem ck_X4_bestLayers_44 : CKV xX4_bestLayers 44 xX4_holds 3 := ⟨⟨tb_i 1059 (by decide +kernel) (by decide +kernel), tb_i 149 (by decide +kernel) (by decide +kernel), tb_i 1062 (by decide +kernel) (by decide +kernel), ⟨by decide +kernel, by decide +kernel, by decide +kernel⟩, by decide, by decide⟩, tb_i 1061 (by decide +kernel) (by decide +kernel), tb_i 25 (by decide +kernel) (by decide +kernel)⟩
def sX4_bestLayers_b73 (a0 : Nat) (a1 : Nat) (K31 : Int → Int → Int → Int → Int → MM → Option (Int × MM)) (x2 : Int) (x3 : Int) (x4 : Int) (y5 : Int) (x7 : Int) (M : MM) : Option (Int × MM) := ((some (x7 + 1)).bind fun v_1 => (K31 x2 x3 x4 y5 v_1 M))
def sX4_bestLayers_b31 (a0 : Nat) (a1 : Nat)  : Nat → Int → Int → Int → Int → Int → MM → Option (Int × MM)
  | 0, _, _, _, _, _, _ => none
  | n + 1, x2, x3, x4, y5, x7, M => (if 9 < wI x7 then (some ((x4, M))) else ((sX4_holds a0 a1 x7 x3 M).bind fun q_2 => ((sX4_holds a0 a1 x7 x2 q_2.2).bind fun q_3 => (if wJ ((q_2.1) - (q_3.1)) ≤ wJ y5 then (sX4_bestLayers_b73 a0 a1 (fun x2 x3 x4 y5 x7 M => sX4_bestLayers_b31 a0 a1 n x2 x3 x4 y5 x7 M) x2 x3 x4 y5 x7 q_3.2) else (sX4_bestLayers_b73 a0 a1 (fun x2 x3 x4 y5 x7 M => sX4_bestLayers_b31 a0 a1 n x2 x3 x4 y5 x7 M) x2 x3 x7 ((q_2.1) - (q_3.1)) x7 q_3.2)))))
def sX4_bestLayers_b0 (a0 : Nat) (a1 : Nat)   (M : MM) : Option (Int × MM) := (if 0 ≤ wI (M a1 3) ∧ wI (M a1 3) < 32 then ((some ((1 * 2 ^ (wI (M a1 3)).toNat) - 1)).bind fun v_2 => (if 0 ≤ wI ((M a1 3) - 1) ∧ wI ((M a1 3) - 1) < 32 then ((some ((1 * 2 ^ (wI ((M a1 3) - 1)).toNat) - 1)).bind fun v_4 => (sX4_bestLayers_b31 a0 a1 FU v_2 v_4 1 (-1) 1 M)) else none)) else none)
def sX4_bestLayers (a0 : Nat) (a1 : Nat) (M : MM) : Option (Int × MM) := sX4_bestLayers_b0 a0 a1 M
set_option maxHeartbeats 4000000 in
set_option maxRecDepth 100000 in
theorem bX4_bestLayers_b73 {G : GG} (a0 : Nat) (a1 : Nat) (oa0 : OB L0 a0 4) (oa1 : OB L0 a1 5) {K31 : Int → Int → Int → Int → Int → MM → Option (Int × MM)} (x2 : Int) (x3 : Int) (x4 : Int) (y5 : Int) (x7 : Int) (M : MM) {res : (Int × MM)} (hK31 : ∀ (x2 : Int) (x3 : Int) (x4 : Int) (y5 : Int) (x7 : Int) (M : MM), K31 x2 x3 x4 y5 x7 M = some res → VV G xX4_bestLayers (ZM G xX4_bestLayers (some (.int (eI res.1))) L0 res.2) L0 M 0 0 31 [(0, .ref (gA G a0)), (1, .ref (gA G a1)), (2, .int (eI x2)), (3, .int (eI x3)), (4, .int (eI x4)), (5, .long (eJ y5)), (7, .int (eI x7))] [])  (h : sX4_bestLayers_b73 a0 a1 K31 x2 x3 x4 y5 x7 M = some res) : VV G xX4_bestLayers (ZM G xX4_bestLayers (some (.int (eI res.1))) L0 res.2) L0 M 0 0 73 [(0, .ref (gA G a0)), (1, .ref (gA G a1)), (2, .int (eI x2)), (3, .int (eI x3)), (4, .int (eI x4)), (5, .long (eJ y5)), (7, .int (eI x7))] [] := by
  unfold sX4_bestLayers_b73 at h
  obtain ⟨v_1, hv_1, h⟩ := ob h
  refine r_iinc (pc := 73) (y := v_1) (lv' := [(7, .int (eI v_1)), (0, .ref (gA G a0)), (1, .ref (gA G a1)), (2, .int (eI x2)), (3, .int (eI x3)), (4, .int (eI x4)), (5, .long (eJ y5))]) dX4_bestLayers_73 6 rfl (Option.some.inj hv_1) (Nat.le_of_ble_eq_true rfl) rfl ?_
  refine r_goto (pc := 76) (tgt := 31) dX4_bestLayers_76 (by decide) ?_
  refine r_sub (lv' := [(0, .ref (gA G a0)), (1, .ref (gA G a1)), (2, .int (eI x2)), (3, .int (eI x3)), (4, .int (eI x4)), (5, .long (eJ y5)), (7, .int (eI v_1))]) [1, 2, 3, 4, 5, 6, 0] rfl ?_
  exact hK31 _ _ _ _ _ _ h
set_option maxHeartbeats 4000000 in
set_option maxRecDepth 100000 in
theorem bX4_bestLayers_b31 {G : GG} (a0 : Nat) (a1 : Nat) (oa0 : OB L0 a0 4) (oa1 : OB L0 a1 5) {res : (Int × MM)} : ∀ (n : Nat) (x2 : Int) (x3 : Int) (x4 : Int) (y5 : Int) (x7 : Int) (M : MM)  (h : sX4_bestLayers_b31 a0 a1 n x2 x3 x4 y5 x7 M = some res), VV G xX4_bestLayers (ZM G xX4_bestLayers (some (.int (eI res.1))) L0 res.2) L0 M 0 0 31 [(0, .ref (gA G a0)), (1, .ref (gA G a1)), (2, .int (eI x2)), (3, .int (eI x3)), (4, .int (eI x4)), (5, .long (eJ y5)), (7, .int (eI x7))] [] := by
  intro n
  induction n with
  | zero =>
    intro x2 x3 x4 y5 x7 M h
    rw [sX4_bestLayers_b31] at h
    cases h
  | succ n ih =>
    intro x2 x3 x4 y5 x7 M h
    rw [sX4_bestLayers_b31] at h
    refine r_iload (pc := 31) dX4_bestLayers_31 6 rfl ?_
    refine r_bipush (pc := 33) (v := 9) dX4_bestLayers_33 (by decide +kernel) ?_
    refine r_icmp_gt (pc := 35) (tgt := 79) dX4_bestLayers_35 (by decide) rfl wl_9 (fun c_1 => ?_) (fun c_1 => ?_)
    · replace h := (if_pos c_1).symm.trans h
      refine r_iload (pc := 79) dX4_bestLayers_79 4 rfl ?_
      cases h
      exact r_iret (pc := 81) rfl rfl (Nat.le_refl 0) (Nat.le_refl 0) dX4_bestLayers_81
    · replace h := (if_neg c_1).symm.trans h
      refine r_aload_n (pc := 38) (i := 0) dX4_bestLayers_38 rfl 0 rfl ?_
      refine r_aload_n (pc := 39) (i := 1) dX4_bestLayers_39 rfl 1 rfl ?_
      refine r_iload (pc := 40) dX4_bestLayers_40 6 rfl ?_
      refine r_iload_n (pc := 42) (i := 3) dX4_bestLayers_42 rfl 3 rfl ?_
      obtain ⟨q_2, hq_2, h⟩ := ob h
      refine r_cV (pc := 43) (Y := xX4_holds) (As := [.ref (gA G a1), .int (eI x7), .int (eI x3)]) (rest := []) (v := (some (.long (eJ (q_2.1))))) (st1 := [.long (eJ (q_2.1))]) ck_X4_bestLayers_44 (kX4_holds a0 a1 x7 x3 M oa0 oa1 hq_2) oa0 rfl rfl rfl rfl (Nat.le_of_ble_eq_true rfl) ⟨rfl, rfl⟩ rfl dX4_bestLayers_43 ?_
      refine r_aload_n (pc := 46) (i := 0) dX4_bestLayers_46 rfl 0 rfl ?_
      refine r_aload_n (pc := 47) (i := 1) dX4_bestLayers_47 rfl 1 rfl ?_
      refine r_iload (pc := 48) dX4_bestLayers_48 6 rfl ?_
      refine r_iload_n (pc := 50) (i := 2) dX4_bestLayers_50 rfl 2 rfl ?_
      obtain ⟨q_3, hq_3, h⟩ := ob h
      refine r_cV (pc := 51) (Y := xX4_holds) (As := [.ref (gA G a1), .int (eI x7), .int (eI x2)]) (rest := [.long (eJ (q_2.1))]) (v := (some (.long (eJ (q_3.1))))) (st1 := [.long (eJ (q_3.1)), .long (eJ (q_2.1))]) ck_X4_bestLayers_44 (kX4_holds a0 a1 x7 x2 q_2.2 oa0 oa1 hq_3) oa0 rfl rfl rfl rfl (Nat.le_of_ble_eq_true rfl) ⟨rfl, rfl⟩ rfl dX4_bestLayers_51 ?_
      refine r_lsub (pc := 54) dX4_bestLayers_54 ?_
      refine r_lstore (pc := 55) (lv' := [(8, .long (eJ ((q_2.1) - (q_3.1)))), (0, .ref (gA G a0)), (1, .ref (gA G a1)), (2, .int (eI x2)), (3, .int (eI x3)), (4, .int (eI x4)), (5, .long (eJ y5)), (7, .int (eI x7))]) dX4_bestLayers_55 (Nat.le_of_ble_eq_true rfl) rfl ?_
      refine r_lload (pc := 57) dX4_bestLayers_57 0 rfl ?_
      refine r_lload (pc := 59) dX4_bestLayers_59 6 rfl ?_
      refine r_lcmp_le (pc := 61) (tgt := 73) dX4_bestLayers_61 dX4_bestLayers_62 (by decide) rfl rfl (fun c_4 => ?_) (fun c_4 => ?_)
      · replace h := (if_pos c_4).symm.trans h
        refine r_sub (lv' := [(0, .ref (gA G a0)), (1, .ref (gA G a1)), (2, .int (eI x2)), (3, .int (eI x3)), (4, .int (eI x4)), (5, .long (eJ y5)), (7, .int (eI x7))]) [1, 2, 3, 4, 5, 6, 7] rfl ?_
        exact bX4_bestLayers_b73 a0 a1 oa0 oa1 _ _ _ _ _ _ (fun v0 v1 v2 v3 v4 v5 v6 => ih v0 v1 v2 v3 v4 v5 v6) h
      · replace h := (if_neg c_4).symm.trans h
        refine r_iload (pc := 65) dX4_bestLayers_65 7 rfl ?_
        refine r_istore (pc := 67) (lv' := [(4, .int (eI x7)), (8, .long (eJ ((q_2.1) - (q_3.1)))), (0, .ref (gA G a0)), (1, .ref (gA G a1)), (2, .int (eI x2)), (3, .int (eI x3)), (5, .long (eJ y5)), (7, .int (eI x7))]) dX4_bestLayers_67 (Nat.le_of_ble_eq_true rfl) rfl ?_
        refine r_lload (pc := 69) dX4_bestLayers_69 1 rfl ?_
        refine r_lstore (pc := 71) (lv' := [(5, .long (eJ ((q_2.1) - (q_3.1)))), (4, .int (eI x7)), (8, .long (eJ ((q_2.1) - (q_3.1)))), (0, .ref (gA G a0)), (1, .ref (gA G a1)), (2, .int (eI x2)), (3, .int (eI x3)), (7, .int (eI x7))]) dX4_bestLayers_71 (Nat.le_of_ble_eq_true rfl) rfl ?_
        refine r_sub (lv' := [(0, .ref (gA G a0)), (1, .ref (gA G a1)), (2, .int (eI x2)), (3, .int (eI x3)), (4, .int (eI x7)), (5, .long (eJ ((q_2.1) - (q_3.1)))), (7, .int (eI x7))]) [3, 4, 5, 6, 1, 0, 7] rfl ?_
        exact bX4_bestLayers_b73 a0 a1 oa0 oa1 _ _ _ _ _ _ (fun v0 v1 v2 v3 v4 v5 v6 => ih v0 v1 v2 v3 v4 v5 v6) h
set_option maxHeartbeats 4000000 in
set_option maxRecDepth 100000 in
theorem bX4_bestLayers_b0 {G : GG} (a0 : Nat) (a1 : Nat) (oa0 : OB L0 a0 4) (oa1 : OB L0 a1 5)  (M : MM) {res : (Int × MM)}  (h : sX4_bestLayers_b0 a0 a1 M = some res) : VV G xX4_bestLayers (ZM G xX4_bestLayers (some (.int (eI res.1))) L0 res.2) L0 M 0 0 0 [(0, .ref (gA G a0)), (1, .ref (gA G a1))] [] := by
  unfold sX4_bestLayers_b0 at h
  refine r_iconst (pc := 0) (v := 1) dX4_bestLayers_0 (by decide +kernel) ?_
  refine r_aload_n (pc := 1) (i := 1) dX4_bestLayers_1 rfl 1 rfl ?_
  refine r_getI (pc := 2) fg_4_28 rfl oa1 dX4_bestLayers_2 ?_
  obtain ⟨c_1, h⟩ := og h
  refine r_ishl (pc := 5) rfl c_1 dX4_bestLayers_5 ?_
  refine r_iconst (pc := 6) (v := 1) dX4_bestLayers_6 (by decide +kernel) ?_
  refine r_isub (pc := 7) dX4_bestLayers_7 ?_
  obtain ⟨v_2, hv_2, h⟩ := ob h
  refine r_nmI (pc := 8) hv_2 ?_
  refine r_istore_n (pc := 8) (i := 2) (lv' := [(2, .int (eI v_2)), (0, .ref (gA G a0)), (1, .ref (gA G a1))]) dX4_bestLayers_8 rfl (Nat.le_of_ble_eq_true rfl) rfl ?_
  refine r_iconst (pc := 9) (v := 1) dX4_bestLayers_9 (by decide +kernel) ?_
  refine r_aload_n (pc := 10) (i := 1) dX4_bestLayers_10 rfl 2 rfl ?_
  refine r_getI (pc := 11) fg_4_28 rfl oa1 dX4_bestLayers_11 ?_
  refine r_iconst (pc := 14) (v := 1) dX4_bestLayers_14 (by decide +kernel) ?_
  refine r_isub (pc := 15) dX4_bestLayers_15 ?_
  obtain ⟨c_3, h⟩ := og h
  refine r_ishl (pc := 16) rfl c_3 dX4_bestLayers_16 ?_
  refine r_iconst (pc := 17) (v := 1) dX4_bestLayers_17 (by decide +kernel) ?_
  refine r_isub (pc := 18) dX4_bestLayers_18 ?_
  obtain ⟨v_4, hv_4, h⟩ := ob h
  refine r_nmI (pc := 19) hv_4 ?_
  refine r_istore_n (pc := 19) (i := 3) (lv' := [(3, .int (eI v_4)), (2, .int (eI v_2)), (0, .ref (gA G a0)), (1, .ref (gA G a1))]) dX4_bestLayers_19 rfl (Nat.le_of_ble_eq_true rfl) rfl ?_
  refine r_iconst (pc := 20) (v := 1) dX4_bestLayers_20 (by decide +kernel) ?_
  refine r_istore (pc := 21) (lv' := [(4, .int (eI 1)), (3, .int (eI v_4)), (2, .int (eI v_2)), (0, .ref (gA G a0)), (1, .ref (gA G a1))]) dX4_bestLayers_21 (Nat.le_of_ble_eq_true rfl) rfl ?_
  refine r_ldc2 (pc := 23) (v := (-1)) kc_4_52 dX4_bestLayers_23 ?_
  refine r_lstore (pc := 26) (lv' := [(5, .long (eJ (-1))), (4, .int (eI 1)), (3, .int (eI v_4)), (2, .int (eI v_2)), (0, .ref (gA G a0)), (1, .ref (gA G a1))]) dX4_bestLayers_26 (Nat.le_of_ble_eq_true rfl) rfl ?_
  refine r_iconst (pc := 28) (v := 1) dX4_bestLayers_28 (by decide +kernel) ?_
  refine r_istore (pc := 29) (lv' := [(7, .int (eI 1)), (5, .long (eJ (-1))), (4, .int (eI 1)), (3, .int (eI v_4)), (2, .int (eI v_2)), (0, .ref (gA G a0)), (1, .ref (gA G a1))]) dX4_bestLayers_29 (Nat.le_of_ble_eq_true rfl) rfl ?_
  refine r_sub (lv' := [(0, .ref (gA G a0)), (1, .ref (gA G a1)), (2, .int (eI v_2)), (3, .int (eI v_4)), (4, .int (eI 1)), (5, .long (eJ (-1))), (7, .int (eI 1))]) [5, 6, 4, 3, 2, 1, 0] rfl ?_
  exact bX4_bestLayers_b31 a0 a1 oa0 oa1 _ _ _ _ _ _ _ h
theorem kX4_bestLayers {G : GG} (a0 : Nat) (a1 : Nat) (M : MM) {res : (Int × MM)} (oa0 : OB L0 a0 4) (oa1 : OB L0 a1 5) (h : sX4_bestLayers a0 a1 M = some res) : CO G xX4_bestLayers [.ref (gA G a0), .ref (gA G a1)] L0 M (some (.int (eI res.1))) L0 res.2 := CO_of (by decide +kernel) (Nat.le_of_ble_eq_true rfl) (bX4_bestLayers_b0 a0 a1 oa0 oa1 M h)
abbrev xX4_isInTable : XX := (yX4_isInTable, cX4_isInTable, 2, (some .boolean), 0, 0, 0, 0)
def sX4_isInTable_b0 (x0 : Int) (x1 : Int)   : Int := (if wI x0 < 0 then 0 else (if 15 < wI x0 then 0 else (if wI x1 < 0 then 0 else (if 31 ≤ wI x1 then 0 else 1))))
def sX4_isInTable (x0 : Int) (x1 : Int) : Int := sX4_isInTable_b0 x0 x1
set_option maxHeartbeats 4000000 in
set_option maxRecDepth 100000 in
theorem bX4_isInTable_b0 {G : GG} (x0 : Int) (x1 : Int) (M : MM)   {res : Int}  (h : sX4_isInTable_b0 x0 x1 = res) : VV G xX4_isInTable (ZM G xX4_isInTable (some (.int (eI res))) L0 M) L0 M 0 0 0 [(0, .int (eI x0)), (1, .int (eI x1))] [] := by
  unfold sX4_isInTable_b0 at h
  refine r_iload_n (pc := 0) (i := 0) dX4_isInTable_0 rfl 0 rfl ?_
  refine r_if_lt (pc := 1) (tgt := 24) dX4_isInTable_1 (by decide) rfl (fun c_1 => ?_) (fun c_1 => ?_)
  · replace h := (if_pos c_1).symm.trans h
    refine r_iconst (pc := 24) (v := 0) dX4_isInTable_24 (by decide +kernel) ?_
    cases h
    exact r_iret (pc := 25) rfl (zn_ok (Or.inl rfl)).1 (Nat.le_refl 0) (Nat.le_refl 0) dX4_isInTable_25
  · replace h := (if_neg c_1).symm.trans h
    refine r_iload_n (pc := 4) (i := 0) dX4_isInTable_4 rfl 0 rfl ?_
    refine r_bipush (pc := 5) (v := 15) dX4_isInTable_5 (by decide +kernel) ?_
    refine r_icmp_gt (pc := 7) (tgt := 24) dX4_isInTable_7 (by decide) rfl wl_15 (fun c_2 => ?_) (fun c_2 => ?_)
    · replace h := (if_pos c_2).symm.trans h
      refine r_iconst (pc := 24) (v := 0) dX4_isInTable_24 (by decide +kernel) ?_
      cases h
      exact r_iret (pc := 25) rfl (zn_ok (Or.inl rfl)).1 (Nat.le_refl 0) (Nat.le_refl 0) dX4_isInTable_25
    · replace h := (if_neg c_2).symm.trans h
      refine r_iload_n (pc := 10) (i := 1) dX4_isInTable_10 rfl 1 rfl ?_
      refine r_if_lt (pc := 11) (tgt := 24) dX4_isInTable_11 (by decide) rfl (fun c_3 => ?_) (fun c_3 => ?_)
      · replace h := (if_pos c_3).symm.trans h
        refine r_iconst (pc := 24) (v := 0) dX4_isInTable_24 (by decide +kernel) ?_
        cases h
        exact r_iret (pc := 25) rfl (zn_ok (Or.inl rfl)).1 (Nat.le_refl 0) (Nat.le_refl 0) dX4_isInTable_25
      · replace h := (if_neg c_3).symm.trans h
        refine r_iload_n (pc := 14) (i := 1) dX4_isInTable_14 rfl 1 rfl ?_
        refine r_bipush (pc := 15) (v := 31) dX4_isInTable_15 (by decide +kernel) ?_
        refine r_icmp_ge (pc := 17) (tgt := 24) dX4_isInTable_17 (by decide) rfl wl_31 (fun c_4 => ?_) (fun c_4 => ?_)
        · replace h := (if_pos c_4).symm.trans h
          refine r_iconst (pc := 24) (v := 0) dX4_isInTable_24 (by decide +kernel) ?_
          cases h
          exact r_iret (pc := 25) rfl (zn_ok (Or.inl rfl)).1 (Nat.le_refl 0) (Nat.le_refl 0) dX4_isInTable_25
        · replace h := (if_neg c_4).symm.trans h
          refine r_iconst (pc := 20) (v := 1) dX4_isInTable_20 (by decide +kernel) ?_
          refine r_goto (pc := 21) (tgt := 25) dX4_isInTable_21 (by decide) ?_
          cases h
          exact r_iret (pc := 25) rfl (zn_ok (Or.inr rfl)).1 (Nat.le_refl 0) (Nat.le_refl 0) dX4_isInTable_25
theorem kX4_isInTable {G : GG} (x0 : Int) (x1 : Int) (M : MM)  : CO G xX4_isInTable [.int (eI x0), .int (eI x1)] L0 M (some (.int (eI (sX4_isInTable x0 x1)))) L0 M := CO_of (by decide +kernel) (Nat.le_of_ble_eq_true rfl) (bX4_isInTable_b0 x0 x1 M rfl)
abbrev xX4_setBest : XX := (yX4_setBest, cX4_setBest, 5, none, 1, 21, 0, 0)
theorem ck_X4_setBest_131 : CKS xX4_setBest 131 xX4_isInTable 2 := ⟨⟨tb_i 1102 (by decide +kernel) (by decide +kernel), tb_i 149 (by decide +kernel) (by decide +kernel), tb_i 1104 (by decide +kernel) (by decide +kernel), ⟨by decide +kernel, by decide +kernel, by decide +kernel⟩, by decide, by decide⟩, tb_i 1103 (by decide +kernel) (by decide +kernel)⟩
def sX4_setBest_b0 (a0 : Nat) (x1 : Int) (x2 : Int) (y3 : Int)   (M : MM) : Option MM := (if wI (sX4_isInTable x1 x2) = 0 then (some (M)) else (if 0 ≤ wI ((x1 * 31) + x2) ∧ wI ((x1 * 31) + x2) < 496 then ((some (mU M (gR a0 4) (wI ((x1 * 31) + x2)).toNat y3)).bind fun M_4 => (some (M_4))) else none))
def sX4_setBest (a0 : Nat) (x1 : Int) (x2 : Int) (y3 : Int) (M : MM) : Option MM := sX4_setBest_b0 a0 x1 x2 y3 M
set_option maxHeartbeats 4000000 in
set_option maxRecDepth 100000 in
theorem bX4_setBest_b0 {G : GG} (a0 : Nat) (x1 : Int) (x2 : Int) (y3 : Int) (oa0 : OB L0 a0 4)  (M : MM) {res : MM}  (h : sX4_setBest_b0 a0 x1 x2 y3 M = some res) : VV G xX4_setBest (ZM G xX4_setBest (none) L0 res) L0 M 0 0 0 [(0, .ref (gA G a0)), (1, .int (eI x1)), (2, .int (eI x2)), (3, .long (eJ y3))] [] := by
  unfold sX4_setBest_b0 at h
  refine r_iload_n (pc := 0) (i := 1) dX4_setBest_0 rfl 1 rfl ?_
  refine r_iload_n (pc := 1) (i := 2) dX4_setBest_1 rfl 2 rfl ?_
  refine r_cS (pc := 2) (Y := xX4_isInTable) (As := [.int (eI x1), .int (eI x2)]) (rest := []) (v := (some (.int (eI (sX4_isInTable x1 x2))))) (st1 := [.int (eI (sX4_isInTable x1 x2))]) ck_X4_setBest_131 (kX4_isInTable x1 x2 M ) rfl rfl (Nat.le_of_ble_eq_true rfl) ⟨rfl, rfl⟩ rfl dX4_setBest_2 ?_
  refine r_if_eq (pc := 5) (tgt := 20) dX4_setBest_5 (by decide) rfl (fun c_1 => ?_) (fun c_1 => ?_)
  · replace h := (if_pos c_1).symm.trans h
    cases h
    exact r_vret (pc := 20) rfl (Nat.le_refl 0) (Nat.le_refl 0) dX4_setBest_20
  · replace h := (if_neg c_1).symm.trans h
    refine r_aload_n (pc := 8) (i := 0) dX4_setBest_8 rfl 0 rfl ?_
    have o_2 := (wt_4_4 oa0).2
    refine r_getR (pc := 9) fg_4_25 rfl oa0 (wt_4_4 oa0).1 dX4_setBest_9 ?_
    refine r_iload_n (pc := 12) (i := 1) dX4_setBest_12 rfl 1 rfl ?_
    refine r_bipush (pc := 13) (v := 31) dX4_setBest_13 (by decide +kernel) ?_
    refine r_imul (pc := 15) dX4_setBest_15 ?_
    refine r_iload_n (pc := 16) (i := 2) dX4_setBest_16 rfl 2 rfl ?_
    refine r_iadd (pc := 17) dX4_setBest_17 ?_
    refine r_lload_n (pc := 18) (i := 3) dX4_setBest_18 rfl 3 rfl ?_
    obtain ⟨c_3, h⟩ := og h
    obtain ⟨M_4, hM_4, h⟩ := ob h
    refine r_last (pc := 19) o_2 rfl c_3 rfl hM_4 dX4_setBest_19 ?_
    cases h
    exact r_vret (pc := 20) rfl (Nat.le_refl 0) (Nat.le_refl 0) dX4_setBest_20
theorem kX4_setBest {G : GG} (a0 : Nat) (x1 : Int) (x2 : Int) (y3 : Int) (M : MM) {res : MM} (oa0 : OB L0 a0 4) (h : sX4_setBest a0 x1 x2 y3 M = some res) : CO G xX4_setBest [.ref (gA G a0), .int (eI x1), .int (eI x2), .long (eJ y3)] L0 M (none) L0 res := CO_of (by decide +kernel) (Nat.le_of_ble_eq_true rfl) (bX4_setBest_b0 a0 x1 x2 y3 oa0 M h)
abbrev xX4_bestAt : XX := (yX4_bestAt, cX4_bestAt, 3, (some .long), 1, 21, 0, 0)
theorem ck_X4_bestAt_131 : CKS xX4_bestAt 131 xX4_isInTable 2 := ⟨⟨tb_i 1102 (by decide +kernel) (by decide +kernel), tb_i 149 (by decide +kernel) (by decide +kernel), tb_i 1104 (by decide +kernel) (by decide +kernel), ⟨by decide +kernel, by decide +kernel, by decide +kernel⟩, by decide, by decide⟩, tb_i 1103 (by decide +kernel) (by decide +kernel)⟩
def sX4_bestAt_b0 (a0 : Nat) (x1 : Int) (x2 : Int) (M : MM)   : Option Int := (if wI (sX4_isInTable x1 x2) = 0 then (some (0)) else (if 0 ≤ wI ((x1 * 31) + x2) ∧ wI ((x1 * 31) + x2) < 496 then (some ((M (gR a0 4) (wI ((x1 * 31) + x2)).toNat))) else none))
def sX4_bestAt (a0 : Nat) (x1 : Int) (x2 : Int) (M : MM) : Option Int := sX4_bestAt_b0 a0 x1 x2 M
set_option maxHeartbeats 4000000 in
set_option maxRecDepth 100000 in
theorem bX4_bestAt_b0 {G : GG} (a0 : Nat) (x1 : Int) (x2 : Int) (M : MM) (oa0 : OB L0 a0 4)  {res : Int}  (h : sX4_bestAt_b0 a0 x1 x2 M = some res) : VV G xX4_bestAt (ZM G xX4_bestAt (some (.long (eJ res))) L0 M) L0 M 0 0 0 [(0, .ref (gA G a0)), (1, .int (eI x1)), (2, .int (eI x2))] [] := by
  unfold sX4_bestAt_b0 at h
  refine r_iload_n (pc := 0) (i := 1) dX4_bestAt_0 rfl 1 rfl ?_
  refine r_iload_n (pc := 1) (i := 2) dX4_bestAt_1 rfl 2 rfl ?_
  refine r_cS (pc := 2) (Y := xX4_isInTable) (As := [.int (eI x1), .int (eI x2)]) (rest := []) (v := (some (.int (eI (sX4_isInTable x1 x2))))) (st1 := [.int (eI (sX4_isInTable x1 x2))]) ck_X4_bestAt_131 (kX4_isInTable x1 x2 M ) rfl rfl (Nat.le_of_ble_eq_true rfl) ⟨rfl, rfl⟩ rfl dX4_bestAt_2 ?_
  refine r_if_eq (pc := 5) (tgt := 22) dX4_bestAt_5 (by decide) rfl (fun c_1 => ?_) (fun c_1 => ?_)
  · replace h := (if_pos c_1).symm.trans h
    refine r_lconst (pc := 22) (v := 0) dX4_bestAt_22 (by decide +kernel) ?_
    cases h
    exact r_lret (pc := 23) rfl (Nat.le_refl 0) (Nat.le_refl 0) dX4_bestAt_23
  · replace h := (if_neg c_1).symm.trans h
    refine r_aload_n (pc := 8) (i := 0) dX4_bestAt_8 rfl 0 rfl ?_
    have o_2 := (wt_4_4 oa0).2
    refine r_getR (pc := 9) fg_4_25 rfl oa0 (wt_4_4 oa0).1 dX4_bestAt_9 ?_
    refine r_iload_n (pc := 12) (i := 1) dX4_bestAt_12 rfl 1 rfl ?_
    refine r_bipush (pc := 13) (v := 31) dX4_bestAt_13 (by decide +kernel) ?_
    refine r_imul (pc := 15) dX4_bestAt_15 ?_
    refine r_iload_n (pc := 16) (i := 2) dX4_bestAt_16 rfl 2 rfl ?_
    refine r_iadd (pc := 17) dX4_bestAt_17 ?_
    obtain ⟨c_3, h⟩ := og h
    refine r_lald (pc := 18) o_2 rfl c_3 rfl dX4_bestAt_18 ?_
    refine r_goto (pc := 19) (tgt := 23) dX4_bestAt_19 (by decide) ?_
    cases h
    exact r_lret (pc := 23) rfl (Nat.le_refl 0) (Nat.le_refl 0) dX4_bestAt_23
theorem kX4_bestAt {G : GG} (a0 : Nat) (x1 : Int) (x2 : Int) (M : MM) {res : Int} (oa0 : OB L0 a0 4) (h : sX4_bestAt a0 x1 x2 M = some res) : CO G xX4_bestAt [.ref (gA G a0), .int (eI x1), .int (eI x2)] L0 M (some (.long (eJ res))) L0 M := CO_of (by decide +kernel) (Nat.le_of_ble_eq_true rfl) (bX4_bestAt_b0 a0 x1 x2 M oa0 h)
abbrev xX4_ifNotLifted : XX := (yX4_ifNotLifted, cX4_ifNotLifted, 5, (some .long), 2, 43, 0, 0)
theorem ck_X4_ifNotLifted_37 : CKS xX4_ifNotLifted 37 xX4_tens 1 := ⟨⟨tb_i 1072 (by decide +kernel) (by decide +kernel), tb_i 149 (by decide +kernel) (by decide +kernel), tb_i 1074 (by decide +kernel) (by decide +kernel), ⟨by decide +kernel, by decide +kernel, by decide +kernel⟩, by decide, by decide⟩, tb_i 1073 (by decide +kernel) (by decide +kernel)⟩
theorem ck_X4_ifNotLifted_123 : CKV xX4_ifNotLifted 123 xX4_bestAt 2 := ⟨⟨tb_i 1109 (by decide +kernel) (by decide +kernel), tb_i 149 (by decide +kernel) (by decide +kernel), tb_i 1112 (by decide +kernel) (by decide +kernel), ⟨by decide +kernel, by decide +kernel, by decide +kernel⟩, by decide, by decide⟩, tb_i 1110 (by decide +kernel) (by decide +kernel), tb_i 1111 (by decide +kernel) (by decide +kernel)⟩
def sX4_ifNotLifted_b0 (a0 : Nat) (a1 : Nat) (x2 : Int) (x3 : Int) (x4 : Int) (M : MM)   : Option Int := (if 0 ≤ wI x2 ∧ wI x2 < 8 then (if wI x4 ≤ wI (M (gR a1 5) (wI x2).toNat) then (if wI x2 = wI ((M a1 3) - 1) then ((sX4_tens ((((M a1 3) * (M a1 12)) - x3) - 1) M).bind fun q_5 => (some (q_5))) else (some (0))) else (if 0 ≤ wI x2 ∧ wI x2 < 8 then ((sX4_bestAt a0 (x3 + 1) (x4 - (M (gR a1 5) (wI x2).toNat)) M).bind fun q_8 => (some (q_8))) else none)) else none)
def sX4_ifNotLifted (a0 : Nat) (a1 : Nat) (x2 : Int) (x3 : Int) (x4 : Int) (M : MM) : Option Int := sX4_ifNotLifted_b0 a0 a1 x2 x3 x4 M
set_option maxHeartbeats 4000000 in
set_option maxRecDepth 100000 in
theorem bX4_ifNotLifted_b0 {G : GG} (a0 : Nat) (a1 : Nat) (x2 : Int) (x3 : Int) (x4 : Int) (M : MM) (oa0 : OB L0 a0 4) (oa1 : OB L0 a1 5)  {res : Int}  (h : sX4_ifNotLifted_b0 a0 a1 x2 x3 x4 M = some res) : VV G xX4_ifNotLifted (ZM G xX4_ifNotLifted (some (.long (eJ res))) L0 M) L0 M 0 0 0 [(0, .ref (gA G a0)), (1, .ref (gA G a1)), (2, .int (eI x2)), (3, .int (eI x3)), (4, .int (eI x4))] [] := by
  unfold sX4_ifNotLifted_b0 at h
  refine r_iload (pc := 0) dX4_ifNotLifted_0 4 rfl ?_
  refine r_aload_n (pc := 2) (i := 1) dX4_ifNotLifted_2 rfl 1 rfl ?_
  have o_1 := (wt_5_5 oa1).2
  refine r_getR (pc := 3) fg_4_80 rfl oa1 (wt_5_5 oa1).1 dX4_ifNotLifted_3 ?_
  refine r_iload_n (pc := 6) (i := 2) dX4_ifNotLifted_6 rfl 2 rfl ?_
  obtain ⟨c_2, h⟩ := og h
  refine r_iald (pc := 7) o_1 rfl c_2 rfl dX4_ifNotLifted_7 ?_
  refine r_icmp_le (pc := 8) (tgt := 28) dX4_ifNotLifted_8 (by decide) rfl rfl (fun c_3 => ?_) (fun c_3 => ?_)
  · replace h := (if_pos c_3).symm.trans h
    refine r_iload_n (pc := 28) (i := 2) dX4_ifNotLifted_28 rfl 2 rfl ?_
    refine r_aload_n (pc := 29) (i := 1) dX4_ifNotLifted_29 rfl 1 rfl ?_
    refine r_getI (pc := 30) fg_4_28 rfl oa1 dX4_ifNotLifted_30 ?_
    refine r_iconst (pc := 33) (v := 1) dX4_ifNotLifted_33 (by decide +kernel) ?_
    refine r_isub (pc := 34) dX4_ifNotLifted_34 ?_
    refine r_icmp_ne (pc := 35) (tgt := 57) dX4_ifNotLifted_35 (by decide) rfl rfl (fun c_4 => ?_) (fun c_4 => ?_)
    · replace h := (if_neg c_4).symm.trans h
      refine r_lconst (pc := 57) (v := 0) dX4_ifNotLifted_57 (by decide +kernel) ?_
      cases h
      exact r_lret (pc := 58) rfl (Nat.le_refl 0) (Nat.le_refl 0) dX4_ifNotLifted_58
    · replace h := (if_pos c_4).symm.trans h
      refine r_aload_n (pc := 38) (i := 1) dX4_ifNotLifted_38 rfl 1 rfl ?_
      refine r_getI (pc := 39) fg_4_28 rfl oa1 dX4_ifNotLifted_39 ?_
      refine r_aload_n (pc := 42) (i := 1) dX4_ifNotLifted_42 rfl 1 rfl ?_
      refine r_getI (pc := 43) fg_4_34 rfl oa1 dX4_ifNotLifted_43 ?_
      refine r_imul (pc := 46) dX4_ifNotLifted_46 ?_
      refine r_iload_n (pc := 47) (i := 3) dX4_ifNotLifted_47 rfl 3 rfl ?_
      refine r_isub (pc := 48) dX4_ifNotLifted_48 ?_
      refine r_iconst (pc := 49) (v := 1) dX4_ifNotLifted_49 (by decide +kernel) ?_
      refine r_isub (pc := 50) dX4_ifNotLifted_50 ?_
      obtain ⟨q_5, hq_5, h⟩ := ob h
      refine r_cS (pc := 51) (Y := xX4_tens) (As := [.int (eI ((((M a1 3) * (M a1 12)) - x3) - 1))]) (rest := []) (v := (some (.long (eJ q_5)))) (st1 := [.long (eJ q_5)]) ck_X4_ifNotLifted_37 (kX4_tens ((((M a1 3) * (M a1 12)) - x3) - 1) M  hq_5) rfl rfl (Nat.le_of_ble_eq_true rfl) ⟨rfl, rfl⟩ rfl dX4_ifNotLifted_51 ?_
      refine r_goto (pc := 54) (tgt := 58) dX4_ifNotLifted_54 (by decide) ?_
      cases h
      exact r_lret (pc := 58) rfl (Nat.le_refl 0) (Nat.le_refl 0) dX4_ifNotLifted_58
  · replace h := (if_neg c_3).symm.trans h
    refine r_aload_n (pc := 11) (i := 0) dX4_ifNotLifted_11 rfl 0 rfl ?_
    refine r_iload_n (pc := 12) (i := 3) dX4_ifNotLifted_12 rfl 3 rfl ?_
    refine r_iconst (pc := 13) (v := 1) dX4_ifNotLifted_13 (by decide +kernel) ?_
    refine r_iadd (pc := 14) dX4_ifNotLifted_14 ?_
    refine r_iload (pc := 15) dX4_ifNotLifted_15 4 rfl ?_
    refine r_aload_n (pc := 17) (i := 1) dX4_ifNotLifted_17 rfl 1 rfl ?_
    have o_6 := (wt_5_5 oa1).2
    refine r_getR (pc := 18) fg_4_80 rfl oa1 (wt_5_5 oa1).1 dX4_ifNotLifted_18 ?_
    refine r_iload_n (pc := 21) (i := 2) dX4_ifNotLifted_21 rfl 2 rfl ?_
    obtain ⟨c_7, h⟩ := og h
    refine r_iald (pc := 22) o_6 rfl c_7 rfl dX4_ifNotLifted_22 ?_
    refine r_isub (pc := 23) dX4_ifNotLifted_23 ?_
    obtain ⟨q_8, hq_8, h⟩ := ob h
    refine r_cV (pc := 24) (Y := xX4_bestAt) (As := [.int (eI (x3 + 1)), .int (eI (x4 - (M (gR a1 5) (wI x2).toNat)))]) (rest := []) (v := (some (.long (eJ q_8)))) (st1 := [.long (eJ q_8)]) ck_X4_ifNotLifted_123 (kX4_bestAt a0 (x3 + 1) (x4 - (M (gR a1 5) (wI x2).toNat)) M oa0 hq_8) oa0 rfl rfl rfl rfl (Nat.le_of_ble_eq_true rfl) ⟨rfl, rfl⟩ rfl dX4_ifNotLifted_24 ?_
    cases h
    exact r_lret (pc := 27) rfl (Nat.le_refl 0) (Nat.le_refl 0) dX4_ifNotLifted_27
theorem kX4_ifNotLifted {G : GG} (a0 : Nat) (a1 : Nat) (x2 : Int) (x3 : Int) (x4 : Int) (M : MM) {res : Int} (oa0 : OB L0 a0 4) (oa1 : OB L0 a1 5) (h : sX4_ifNotLifted a0 a1 x2 x3 x4 M = some res) : CO G xX4_ifNotLifted [.ref (gA G a0), .ref (gA G a1), .int (eI x2), .int (eI x3), .int (eI x4)] L0 M (some (.long (eJ res))) L0 M := CO_of (by decide +kernel) (Nat.le_of_ble_eq_true rfl) (bX4_ifNotLifted_b0 a0 a1 x2 x3 x4 M oa0 oa1 h)
abbrev xX4_weighLifting : XX := (yX4_weighLifting, cX4_weighLifting, 10, none, 3, 67, 0, 0)
theorem ck_X4_weighLifting_116 : CKV xX4_weighLifting 116 xX4_setBest 3 := ⟨⟨tb_i 1098 (by decide +kernel) (by decide +kernel), tb_i 149 (by decide +kernel) (by decide +kernel), tb_i 1101 (by decide +kernel) (by decide +kernel), ⟨by decide +kernel, by decide +kernel, by decide +kernel⟩, by decide, by decide⟩, tb_i 1100 (by decide +kernel) (by decide +kernel), tb_i 30 (by decide +kernel) (by decide +kernel)⟩
theorem ck_X4_weighLifting_123 : CKV xX4_weighLifting 123 xX4_bestAt 2 := ⟨⟨tb_i 1109 (by decide +kernel) (by decide +kernel), tb_i 149 (by decide +kernel) (by decide +kernel), tb_i 1112 (by decide +kernel) (by decide +kernel), ⟨by decide +kernel, by decide +kernel, by decide +kernel⟩, by decide, by decide⟩, tb_i 1110 (by decide +kernel) (by decide +kernel), tb_i 1111 (by decide +kernel) (by decide +kernel)⟩
theorem ck_X4_weighLifting_127 : CKV xX4_weighLifting 127 xX4_ifNotLifted 4 := ⟨⟨tb_i 1113 (by decide +kernel) (by decide +kernel), tb_i 149 (by decide +kernel) (by decide +kernel), tb_i 1116 (by decide +kernel) (by decide +kernel), ⟨by decide +kernel, by decide +kernel, by decide +kernel⟩, by decide, by decide⟩, tb_i 1115 (by decide +kernel) (by decide +kernel), tb_i 32 (by decide +kernel) (by decide +kernel)⟩
def sX4_weighLifting_b11 (a0 : Nat) (a1 : Nat) (x2 : Int) (x3 : Int)  : Nat → Int → Int → MM → Option MM
  | 0, _, _, _ => none
  | n + 1, x4, x5, M => (if 31 ≤ wI x5 then (some (M)) else ((sX4_bestAt a0 (x3 + 1) x5 M).bind fun q_2 => ((sX4_ifNotLifted a0 a1 x2 x3 x5 M).bind fun q_3 => ((sX4_setBest a0 x3 x5 (((wI (10 - x4)) * q_2) + ((wI x4) * (max (wJ q_2) (wJ q_3)))) M).bind fun q_4 => ((some (x5 + 1)).bind fun v_5 => (sX4_weighLifting_b11 a0 a1 x2 x3 n x4 v_5 q_4))))))
def sX4_weighLifting_b0 (a0 : Nat) (a1 : Nat) (x2 : Int) (x3 : Int)   (M : MM) : Option MM := (if 0 ≤ wI x2 ∧ wI x2 < 8 then (sX4_weighLifting_b11 a0 a1 x2 x3 FU (M (gR a1 6) (wI x2).toNat) 1 M) else none)
def sX4_weighLifting (a0 : Nat) (a1 : Nat) (x2 : Int) (x3 : Int) (M : MM) : Option MM := sX4_weighLifting_b0 a0 a1 x2 x3 M
set_option maxHeartbeats 4000000 in
set_option maxRecDepth 100000 in
theorem bX4_weighLifting_b11 {G : GG} (a0 : Nat) (a1 : Nat) (x2 : Int) (x3 : Int) (oa0 : OB L0 a0 4) (oa1 : OB L0 a1 5) {res : MM} : ∀ (n : Nat) (x4 : Int) (x5 : Int) (M : MM)  (h : sX4_weighLifting_b11 a0 a1 x2 x3 n x4 x5 M = some res), VV G xX4_weighLifting (ZM G xX4_weighLifting (none) L0 res) L0 M 0 0 11 [(0, .ref (gA G a0)), (1, .ref (gA G a1)), (2, .int (eI x2)), (3, .int (eI x3)), (4, .int (eI x4)), (5, .int (eI x5))] [] := by
  intro n
  induction n with
  | zero =>
    intro x4 x5 M h
    rw [sX4_weighLifting_b11] at h
    cases h
  | succ n ih =>
    intro x4 x5 M h
    rw [sX4_weighLifting_b11] at h
    refine r_iload (pc := 11) dX4_weighLifting_11 5 rfl ?_
    refine r_bipush (pc := 13) (v := 31) dX4_weighLifting_13 (by decide +kernel) ?_
    refine r_icmp_ge (pc := 15) (tgt := 74) dX4_weighLifting_15 (by decide) rfl wl_31 (fun c_1 => ?_) (fun c_1 => ?_)
    · replace h := (if_pos c_1).symm.trans h
      cases h
      exact r_vret (pc := 74) rfl (Nat.le_refl 0) (Nat.le_refl 0) dX4_weighLifting_74
    · replace h := (if_neg c_1).symm.trans h
      refine r_aload_n (pc := 18) (i := 0) dX4_weighLifting_18 rfl 0 rfl ?_
      refine r_iload_n (pc := 19) (i := 3) dX4_weighLifting_19 rfl 3 rfl ?_
      refine r_iconst (pc := 20) (v := 1) dX4_weighLifting_20 (by decide +kernel) ?_
      refine r_iadd (pc := 21) dX4_weighLifting_21 ?_
      refine r_iload (pc := 22) dX4_weighLifting_22 5 rfl ?_
      obtain ⟨q_2, hq_2, h⟩ := ob h
      refine r_cV (pc := 24) (Y := xX4_bestAt) (As := [.int (eI (x3 + 1)), .int (eI x5)]) (rest := []) (v := (some (.long (eJ q_2)))) (st1 := [.long (eJ q_2)]) ck_X4_weighLifting_123 (kX4_bestAt a0 (x3 + 1) x5 M oa0 hq_2) oa0 rfl rfl rfl rfl (Nat.le_of_ble_eq_true rfl) ⟨rfl, rfl⟩ rfl dX4_weighLifting_24 ?_
      refine r_lstore (pc := 27) (lv' := [(6, .long (eJ q_2)), (0, .ref (gA G a0)), (1, .ref (gA G a1)), (2, .int (eI x2)), (3, .int (eI x3)), (4, .int (eI x4)), (5, .int (eI x5))]) dX4_weighLifting_27 (Nat.le_of_ble_eq_true rfl) rfl ?_
      refine r_lload (pc := 29) dX4_weighLifting_29 0 rfl ?_
      refine r_aload_n (pc := 31) (i := 0) dX4_weighLifting_31 rfl 1 rfl ?_
      refine r_aload_n (pc := 32) (i := 1) dX4_weighLifting_32 rfl 2 rfl ?_
      refine r_iload_n (pc := 33) (i := 2) dX4_weighLifting_33 rfl 3 rfl ?_
      refine r_iload_n (pc := 34) (i := 3) dX4_weighLifting_34 rfl 4 rfl ?_
      refine r_iload (pc := 35) dX4_weighLifting_35 6 rfl ?_
      obtain ⟨q_3, hq_3, h⟩ := ob h
      refine r_cV (pc := 37) (Y := xX4_ifNotLifted) (As := [.ref (gA G a1), .int (eI x2), .int (eI x3), .int (eI x5)]) (rest := [.long (eJ q_2)]) (v := (some (.long (eJ q_3)))) (st1 := [.long (eJ q_3), .long (eJ q_2)]) ck_X4_weighLifting_127 (kX4_ifNotLifted a0 a1 x2 x3 x5 M oa0 oa1 hq_3) oa0 rfl rfl rfl rfl (Nat.le_of_ble_eq_true rfl) ⟨rfl, rfl⟩ rfl dX4_weighLifting_37 ?_
      refine r_mmaxL (pc := 40) ml_4_106 ⟨Nat.le_of_ble_eq_true rfl, Nat.le_of_ble_eq_true rfl, Nat.le_of_ble_eq_true rfl, Nat.le_of_ble_eq_true rfl⟩ rfl rfl dX4_weighLifting_40 ?_
      refine r_lstore (pc := 43) (lv' := [(8, .long (eJ (max (wJ q_2) (wJ q_3)))), (6, .long (eJ q_2)), (0, .ref (gA G a0)), (1, .ref (gA G a1)), (2, .int (eI x2)), (3, .int (eI x3)), (4, .int (eI x4)), (5, .int (eI x5))]) dX4_weighLifting_43 (Nat.le_of_ble_eq_true rfl) rfl ?_
      refine r_aload_n (pc := 45) (i := 0) dX4_weighLifting_45 rfl 2 rfl ?_
      refine r_iload_n (pc := 46) (i := 3) dX4_weighLifting_46 rfl 5 rfl ?_
      refine r_iload (pc := 47) dX4_weighLifting_47 7 rfl ?_
      refine r_bipush (pc := 49) (v := 10) dX4_weighLifting_49 (by decide +kernel) ?_
      refine r_iload (pc := 51) dX4_weighLifting_51 6 rfl ?_
      refine r_isub (pc := 53) dX4_weighLifting_53 ?_
      refine r_i2l (pc := 54) rfl dX4_weighLifting_54 ?_
      refine r_lload (pc := 55) dX4_weighLifting_55 1 rfl ?_
      refine r_lmul (pc := 57) dX4_weighLifting_57 ?_
      refine r_iload (pc := 58) dX4_weighLifting_58 6 rfl ?_
      refine r_i2l (pc := 60) rfl dX4_weighLifting_60 ?_
      refine r_lload (pc := 61) dX4_weighLifting_61 0 rfl ?_
      refine r_lmul (pc := 63) dX4_weighLifting_63 ?_
      refine r_ladd (pc := 64) dX4_weighLifting_64 ?_
      obtain ⟨q_4, hq_4, h⟩ := ob h
      refine r_cV (pc := 65) (Y := xX4_setBest) (As := [.int (eI x3), .int (eI x5), .long (eJ (((wI (10 - x4)) * q_2) + ((wI x4) * (max (wJ q_2) (wJ q_3)))))]) (rest := []) (v := none) (st1 := []) ck_X4_weighLifting_116 (kX4_setBest a0 x3 x5 (((wI (10 - x4)) * q_2) + ((wI x4) * (max (wJ q_2) (wJ q_3)))) M oa0 hq_4) oa0 rfl rfl rfl rfl (Nat.le_of_ble_eq_true rfl) ⟨rfl, rfl⟩ rfl dX4_weighLifting_65 ?_
      obtain ⟨v_5, hv_5, h⟩ := ob h
      refine r_iinc (pc := 68) (y := v_5) (lv' := [(5, .int (eI v_5)), (8, .long (eJ (max (wJ q_2) (wJ q_3)))), (6, .long (eJ q_2)), (0, .ref (gA G a0)), (1, .ref (gA G a1)), (2, .int (eI x2)), (3, .int (eI x3)), (4, .int (eI x4))]) dX4_weighLifting_68 7 rfl (Option.some.inj hv_5) (Nat.le_of_ble_eq_true rfl) rfl ?_
      refine r_goto (pc := 71) (tgt := 11) dX4_weighLifting_71 (by decide) ?_
      refine r_sub (lv' := [(0, .ref (gA G a0)), (1, .ref (gA G a1)), (2, .int (eI x2)), (3, .int (eI x3)), (4, .int (eI x4)), (5, .int (eI v_5))]) [3, 4, 5, 6, 7, 0] rfl ?_
      exact ih _ _ _ h
set_option maxHeartbeats 4000000 in
set_option maxRecDepth 100000 in
theorem bX4_weighLifting_b0 {G : GG} (a0 : Nat) (a1 : Nat) (x2 : Int) (x3 : Int) (oa0 : OB L0 a0 4) (oa1 : OB L0 a1 5)  (M : MM) {res : MM}  (h : sX4_weighLifting_b0 a0 a1 x2 x3 M = some res) : VV G xX4_weighLifting (ZM G xX4_weighLifting (none) L0 res) L0 M 0 0 0 [(0, .ref (gA G a0)), (1, .ref (gA G a1)), (2, .int (eI x2)), (3, .int (eI x3))] [] := by
  unfold sX4_weighLifting_b0 at h
  refine r_aload_n (pc := 0) (i := 1) dX4_weighLifting_0 rfl 1 rfl ?_
  have o_1 := (wt_5_6 oa1).2
  refine r_getR (pc := 1) fg_4_77 rfl oa1 (wt_5_6 oa1).1 dX4_weighLifting_1 ?_
  refine r_iload_n (pc := 4) (i := 2) dX4_weighLifting_4 rfl 2 rfl ?_
  obtain ⟨c_2, h⟩ := og h
  refine r_iald (pc := 5) o_1 rfl c_2 rfl dX4_weighLifting_5 ?_
  refine r_istore (pc := 6) (lv' := [(4, .int (eI (M (gR a1 6) (wI x2).toNat))), (0, .ref (gA G a0)), (1, .ref (gA G a1)), (2, .int (eI x2)), (3, .int (eI x3))]) dX4_weighLifting_6 (Nat.le_of_ble_eq_true rfl) rfl ?_
  refine r_iconst (pc := 8) (v := 1) dX4_weighLifting_8 (by decide +kernel) ?_
  refine r_istore (pc := 9) (lv' := [(5, .int (eI 1)), (4, .int (eI (M (gR a1 6) (wI x2).toNat))), (0, .ref (gA G a0)), (1, .ref (gA G a1)), (2, .int (eI x2)), (3, .int (eI x3))]) dX4_weighLifting_9 (Nat.le_of_ble_eq_true rfl) rfl ?_
  refine r_sub (lv' := [(0, .ref (gA G a0)), (1, .ref (gA G a1)), (2, .int (eI x2)), (3, .int (eI x3)), (4, .int (eI (M (gR a1 6) (wI x2).toNat))), (5, .int (eI 1))]) [2, 3, 4, 5, 1, 0] rfl ?_
  exact bX4_weighLifting_b11 a0 a1 x2 x3 oa0 oa1 _ _ _ _ h
theorem kX4_weighLifting {G : GG} (a0 : Nat) (a1 : Nat) (x2 : Int) (x3 : Int) (M : MM) {res : MM} (oa0 : OB L0 a0 4) (oa1 : OB L0 a1 5) (h : sX4_weighLifting a0 a1 x2 x3 M = some res) : CO G xX4_weighLifting [.ref (gA G a0), .ref (gA G a1), .int (eI x2), .int (eI x3)] L0 M (none) L0 res := CO_of (by decide +kernel) (Nat.le_of_ble_eq_true rfl) (bX4_weighLifting_b0 a0 a1 x2 x3 oa0 oa1 M h)
abbrev xX4_knowsAll : XX := (yX4_knowsAll, cX4_knowsAll, 6, none, 4, 96, 0, 0)
theorem ck_X4_knowsAll_116 : CKV xX4_knowsAll 116 xX4_setBest 3 := ⟨⟨tb_i 1098 (by decide +kernel) (by decide +kernel), tb_i 149 (by decide +kernel) (by decide +kernel), tb_i 1101 (by decide +kernel) (by decide +kernel), ⟨by decide +kernel, by decide +kernel, by decide +kernel⟩, by decide, by decide⟩, tb_i 1100 (by decide +kernel) (by decide +kernel), tb_i 30 (by decide +kernel) (by decide +kernel)⟩
theorem ck_X4_knowsAll_120 : CKV xX4_knowsAll 120 xX4_weighLifting 3 := ⟨⟨tb_i 1105 (by decide +kernel) (by decide +kernel), tb_i 149 (by decide +kernel) (by decide +kernel), tb_i 1108 (by decide +kernel) (by decide +kernel), ⟨by decide +kernel, by decide +kernel, by decide +kernel⟩, by decide, by decide⟩, tb_i 1107 (by decide +kernel) (by decide +kernel), tb_i 31 (by decide +kernel) (by decide +kernel)⟩
def sX4_knowsAll_b51 (a0 : Nat) (a1 : Nat) (K43 : Int → Int → MM → Option MM) : Nat → Int → Int → Int → MM → Option MM
  | 0, _, _, _, _ => none
  | n + 1, x3, x4, x5, M => (if wI (M a1 12) ≤ wI x5 then ((some (x4 + (-1))).bind fun v_2 => (K43 x3 v_2 M)) else ((sX4_weighLifting a0 a1 x4 x3 M).bind fun q_3 => ((some (x3 + (-1))).bind fun v_4 => ((some (x5 + 1)).bind fun v_5 => (sX4_knowsAll_b51 a0 a1 K43 n v_4 x4 v_5 q_3)))))
def sX4_knowsAll_b43 (a0 : Nat) (a1 : Nat)  : Nat → Int → Int → MM → Option MM
  | 0, _, _, _ => none
  | n + 1, x3, x4, M => (if wI x4 < 0 then (some (M)) else (sX4_knowsAll_b51 a0 a1 (fun x3 x4 M => sX4_knowsAll_b43 a0 a1 n x3 x4 M) FU x3 x4 0 M))
def sX4_knowsAll_b12 (a0 : Nat) (a1 : Nat)  : Nat → Int → Int → MM → Option MM
  | 0, _, _, _ => none
  | n + 1, x2, x3, M => (if 31 ≤ wI x3 then (sX4_knowsAll_b43 a0 a1 FU (x2 - 1) ((M a1 3) - 1) M) else ((sX4_setBest a0 x2 x3 0 M).bind fun q_2 => ((some (x3 + 1)).bind fun v_3 => (sX4_knowsAll_b12 a0 a1 n x2 v_3 q_2))))
def sX4_knowsAll_b0 (a0 : Nat) (a1 : Nat)   (M : MM) : Option MM := (sX4_knowsAll_b12 a0 a1 FU ((M a1 3) * (M a1 12)) 0 M)
def sX4_knowsAll (a0 : Nat) (a1 : Nat) (M : MM) : Option MM := sX4_knowsAll_b0 a0 a1 M
set_option maxHeartbeats 4000000 in
set_option maxRecDepth 100000 in
theorem bX4_knowsAll_b51 {G : GG} (a0 : Nat) (a1 : Nat) (oa0 : OB L0 a0 4) (oa1 : OB L0 a1 5) {K43 : Int → Int → MM → Option MM} {res : MM} (hK43 : ∀ (x3 : Int) (x4 : Int) (M : MM), K43 x3 x4 M = some res → VV G xX4_knowsAll (ZM G xX4_knowsAll (none) L0 res) L0 M 0 0 43 [(0, .ref (gA G a0)), (1, .ref (gA G a1)), (3, .int (eI x3)), (4, .int (eI x4))] []) : ∀ (n : Nat) (x3 : Int) (x4 : Int) (x5 : Int) (M : MM)  (h : sX4_knowsAll_b51 a0 a1 K43 n x3 x4 x5 M = some res), VV G xX4_knowsAll (ZM G xX4_knowsAll (none) L0 res) L0 M 0 0 51 [(0, .ref (gA G a0)), (1, .ref (gA G a1)), (3, .int (eI x3)), (4, .int (eI x4)), (5, .int (eI x5))] [] := by
  intro n
  induction n with
  | zero =>
    intro x3 x4 x5 M h
    rw [sX4_knowsAll_b51] at h
    cases h
  | succ n ih =>
    intro x3 x4 x5 M h
    rw [sX4_knowsAll_b51] at h
    refine r_iload (pc := 51) dX4_knowsAll_51 4 rfl ?_
    refine r_aload_n (pc := 53) (i := 1) dX4_knowsAll_53 rfl 1 rfl ?_
    refine r_getI (pc := 54) fg_4_34 rfl oa1 dX4_knowsAll_54 ?_
    refine r_icmp_ge (pc := 57) (tgt := 77) dX4_knowsAll_57 (by decide) rfl rfl (fun c_1 => ?_) (fun c_1 => ?_)
    · replace h := (if_pos c_1).symm.trans h
      obtain ⟨v_2, hv_2, h⟩ := ob h
      refine r_iinc (pc := 77) (y := v_2) (lv' := [(4, .int (eI v_2)), (0, .ref (gA G a0)), (1, .ref (gA G a1)), (3, .int (eI x3)), (5, .int (eI x5))]) dX4_knowsAll_77 3 rfl (Option.some.inj hv_2) (Nat.le_of_ble_eq_true rfl) rfl ?_
      refine r_goto (pc := 80) (tgt := 43) dX4_knowsAll_80 (by decide) ?_
      refine r_sub (lv' := [(0, .ref (gA G a0)), (1, .ref (gA G a1)), (3, .int (eI x3)), (4, .int (eI v_2))]) [1, 2, 3, 0] rfl ?_
      exact hK43 _ _ _ h
    · replace h := (if_neg c_1).symm.trans h
      refine r_aload_n (pc := 60) (i := 0) dX4_knowsAll_60 rfl 0 rfl ?_
      refine r_aload_n (pc := 61) (i := 1) dX4_knowsAll_61 rfl 1 rfl ?_
      refine r_iload (pc := 62) dX4_knowsAll_62 3 rfl ?_
      refine r_iload_n (pc := 64) (i := 3) dX4_knowsAll_64 rfl 2 rfl ?_
      obtain ⟨q_3, hq_3, h⟩ := ob h
      refine r_cV (pc := 65) (Y := xX4_weighLifting) (As := [.ref (gA G a1), .int (eI x4), .int (eI x3)]) (rest := []) (v := none) (st1 := []) ck_X4_knowsAll_120 (kX4_weighLifting a0 a1 x4 x3 M oa0 oa1 hq_3) oa0 rfl rfl rfl rfl (Nat.le_of_ble_eq_true rfl) ⟨rfl, rfl⟩ rfl dX4_knowsAll_65 ?_
      obtain ⟨v_4, hv_4, h⟩ := ob h
      refine r_iinc (pc := 68) (y := v_4) (lv' := [(3, .int (eI v_4)), (0, .ref (gA G a0)), (1, .ref (gA G a1)), (4, .int (eI x4)), (5, .int (eI x5))]) dX4_knowsAll_68 2 rfl (Option.some.inj hv_4) (Nat.le_of_ble_eq_true rfl) rfl ?_
      obtain ⟨v_5, hv_5, h⟩ := ob h
      refine r_iinc (pc := 71) (y := v_5) (lv' := [(5, .int (eI v_5)), (3, .int (eI v_4)), (0, .ref (gA G a0)), (1, .ref (gA G a1)), (4, .int (eI x4))]) dX4_knowsAll_71 4 rfl (Option.some.inj hv_5) (Nat.le_of_ble_eq_true rfl) rfl ?_
      refine r_goto (pc := 74) (tgt := 51) dX4_knowsAll_74 (by decide) ?_
      refine r_sub (lv' := [(0, .ref (gA G a0)), (1, .ref (gA G a1)), (3, .int (eI v_4)), (4, .int (eI x4)), (5, .int (eI v_5))]) [2, 3, 1, 4, 0] rfl ?_
      exact ih _ _ _ _ h
set_option maxHeartbeats 4000000 in
set_option maxRecDepth 100000 in
theorem bX4_knowsAll_b43 {G : GG} (a0 : Nat) (a1 : Nat) (oa0 : OB L0 a0 4) (oa1 : OB L0 a1 5) {res : MM} : ∀ (n : Nat) (x3 : Int) (x4 : Int) (M : MM)  (h : sX4_knowsAll_b43 a0 a1 n x3 x4 M = some res), VV G xX4_knowsAll (ZM G xX4_knowsAll (none) L0 res) L0 M 0 0 43 [(0, .ref (gA G a0)), (1, .ref (gA G a1)), (3, .int (eI x3)), (4, .int (eI x4))] [] := by
  intro n
  induction n with
  | zero =>
    intro x3 x4 M h
    rw [sX4_knowsAll_b43] at h
    cases h
  | succ n ih =>
    intro x3 x4 M h
    rw [sX4_knowsAll_b43] at h
    refine r_iload (pc := 43) dX4_knowsAll_43 3 rfl ?_
    refine r_if_lt (pc := 45) (tgt := 83) dX4_knowsAll_45 (by decide) rfl (fun c_1 => ?_) (fun c_1 => ?_)
    · replace h := (if_pos c_1).symm.trans h
      cases h
      exact r_vret (pc := 83) rfl (Nat.le_refl 0) (Nat.le_refl 0) dX4_knowsAll_83
    · replace h := (if_neg c_1).symm.trans h
      refine r_iconst (pc := 48) (v := 0) dX4_knowsAll_48 (by decide +kernel) ?_
      refine r_istore (pc := 49) (lv' := [(5, .int (eI 0)), (0, .ref (gA G a0)), (1, .ref (gA G a1)), (3, .int (eI x3)), (4, .int (eI x4))]) dX4_knowsAll_49 (Nat.le_of_ble_eq_true rfl) rfl ?_
      refine r_sub (lv' := [(0, .ref (gA G a0)), (1, .ref (gA G a1)), (3, .int (eI x3)), (4, .int (eI x4)), (5, .int (eI 0))]) [1, 2, 3, 4, 0] rfl ?_
      exact bX4_knowsAll_b51 a0 a1 oa0 oa1 (fun v0 v1 v2 v3 => ih v0 v1 v2 v3) _ _ _ _ _ h
set_option maxHeartbeats 4000000 in
set_option maxRecDepth 100000 in
theorem bX4_knowsAll_b12 {G : GG} (a0 : Nat) (a1 : Nat) (oa0 : OB L0 a0 4) (oa1 : OB L0 a1 5) {res : MM} : ∀ (n : Nat) (x2 : Int) (x3 : Int) (M : MM)  (h : sX4_knowsAll_b12 a0 a1 n x2 x3 M = some res), VV G xX4_knowsAll (ZM G xX4_knowsAll (none) L0 res) L0 M 0 0 12 [(0, .ref (gA G a0)), (1, .ref (gA G a1)), (2, .int (eI x2)), (3, .int (eI x3))] [] := by
  intro n
  induction n with
  | zero =>
    intro x2 x3 M h
    rw [sX4_knowsAll_b12] at h
    cases h
  | succ n ih =>
    intro x2 x3 M h
    rw [sX4_knowsAll_b12] at h
    refine r_iload_n (pc := 12) (i := 3) dX4_knowsAll_12 rfl 3 rfl ?_
    refine r_bipush (pc := 13) (v := 31) dX4_knowsAll_13 (by decide +kernel) ?_
    refine r_icmp_ge (pc := 15) (tgt := 31) dX4_knowsAll_15 (by decide) rfl wl_31 (fun c_1 => ?_) (fun c_1 => ?_)
    · replace h := (if_pos c_1).symm.trans h
      refine r_iload_n (pc := 31) (i := 2) dX4_knowsAll_31 rfl 2 rfl ?_
      refine r_iconst (pc := 32) (v := 1) dX4_knowsAll_32 (by decide +kernel) ?_
      refine r_isub (pc := 33) dX4_knowsAll_33 ?_
      refine r_istore_n (pc := 34) (i := 3) (lv' := [(3, .int (eI (x2 - 1))), (0, .ref (gA G a0)), (1, .ref (gA G a1)), (2, .int (eI x2))]) dX4_knowsAll_34 rfl (Nat.le_of_ble_eq_true rfl) rfl ?_
      refine r_aload_n (pc := 35) (i := 1) dX4_knowsAll_35 rfl 2 rfl ?_
      refine r_getI (pc := 36) fg_4_28 rfl oa1 dX4_knowsAll_36 ?_
      refine r_iconst (pc := 39) (v := 1) dX4_knowsAll_39 (by decide +kernel) ?_
      refine r_isub (pc := 40) dX4_knowsAll_40 ?_
      refine r_istore (pc := 41) (lv' := [(4, .int (eI ((M a1 3) - 1))), (3, .int (eI (x2 - 1))), (0, .ref (gA G a0)), (1, .ref (gA G a1)), (2, .int (eI x2))]) dX4_knowsAll_41 (Nat.le_of_ble_eq_true rfl) rfl ?_
      refine r_sub (lv' := [(0, .ref (gA G a0)), (1, .ref (gA G a1)), (3, .int (eI (x2 - 1))), (4, .int (eI ((M a1 3) - 1)))]) [2, 3, 1, 0] rfl ?_
      exact bX4_knowsAll_b43 a0 a1 oa0 oa1 _ _ _ _ h
    · replace h := (if_neg c_1).symm.trans h
      refine r_aload_n (pc := 18) (i := 0) dX4_knowsAll_18 rfl 0 rfl ?_
      refine r_iload_n (pc := 19) (i := 2) dX4_knowsAll_19 rfl 2 rfl ?_
      refine r_iload_n (pc := 20) (i := 3) dX4_knowsAll_20 rfl 3 rfl ?_
      refine r_lconst (pc := 21) (v := 0) dX4_knowsAll_21 (by decide +kernel) ?_
      obtain ⟨q_2, hq_2, h⟩ := ob h
      refine r_cV (pc := 22) (Y := xX4_setBest) (As := [.int (eI x2), .int (eI x3), .long (eJ 0)]) (rest := []) (v := none) (st1 := []) ck_X4_knowsAll_116 (kX4_setBest a0 x2 x3 0 M oa0 hq_2) oa0 rfl rfl rfl rfl (Nat.le_of_ble_eq_true rfl) ⟨rfl, rfl⟩ rfl dX4_knowsAll_22 ?_
      obtain ⟨v_3, hv_3, h⟩ := ob h
      refine r_iinc (pc := 25) (y := v_3) (lv' := [(3, .int (eI v_3)), (0, .ref (gA G a0)), (1, .ref (gA G a1)), (2, .int (eI x2))]) dX4_knowsAll_25 3 rfl (Option.some.inj hv_3) (Nat.le_of_ble_eq_true rfl) rfl ?_
      refine r_goto (pc := 28) (tgt := 12) dX4_knowsAll_28 (by decide) ?_
      refine r_sub (lv' := [(0, .ref (gA G a0)), (1, .ref (gA G a1)), (2, .int (eI x2)), (3, .int (eI v_3))]) [1, 2, 3, 0] rfl ?_
      exact ih _ _ _ h
set_option maxHeartbeats 4000000 in
set_option maxRecDepth 100000 in
theorem bX4_knowsAll_b0 {G : GG} (a0 : Nat) (a1 : Nat) (oa0 : OB L0 a0 4) (oa1 : OB L0 a1 5)  (M : MM) {res : MM}  (h : sX4_knowsAll_b0 a0 a1 M = some res) : VV G xX4_knowsAll (ZM G xX4_knowsAll (none) L0 res) L0 M 0 0 0 [(0, .ref (gA G a0)), (1, .ref (gA G a1))] [] := by
  unfold sX4_knowsAll_b0 at h
  refine r_aload_n (pc := 0) (i := 1) dX4_knowsAll_0 rfl 1 rfl ?_
  refine r_getI (pc := 1) fg_4_28 rfl oa1 dX4_knowsAll_1 ?_
  refine r_aload_n (pc := 4) (i := 1) dX4_knowsAll_4 rfl 1 rfl ?_
  refine r_getI (pc := 5) fg_4_34 rfl oa1 dX4_knowsAll_5 ?_
  refine r_imul (pc := 8) dX4_knowsAll_8 ?_
  refine r_istore_n (pc := 9) (i := 2) (lv' := [(2, .int (eI ((M a1 3) * (M a1 12)))), (0, .ref (gA G a0)), (1, .ref (gA G a1))]) dX4_knowsAll_9 rfl (Nat.le_of_ble_eq_true rfl) rfl ?_
  refine r_iconst (pc := 10) (v := 0) dX4_knowsAll_10 (by decide +kernel) ?_
  refine r_istore_n (pc := 11) (i := 3) (lv' := [(3, .int (eI 0)), (2, .int (eI ((M a1 3) * (M a1 12)))), (0, .ref (gA G a0)), (1, .ref (gA G a1))]) dX4_knowsAll_11 rfl (Nat.le_of_ble_eq_true rfl) rfl ?_
  refine r_sub (lv' := [(0, .ref (gA G a0)), (1, .ref (gA G a1)), (2, .int (eI ((M a1 3) * (M a1 12)))), (3, .int (eI 0))]) [2, 3, 1, 0] rfl ?_
  exact bX4_knowsAll_b12 a0 a1 oa0 oa1 _ _ _ _ h
theorem kX4_knowsAll {G : GG} (a0 : Nat) (a1 : Nat) (M : MM) {res : MM} (oa0 : OB L0 a0 4) (oa1 : OB L0 a1 5) (h : sX4_knowsAll a0 a1 M = some res) : CO G xX4_knowsAll [.ref (gA G a0), .ref (gA G a1)] L0 M (none) L0 res := CO_of (by decide +kernel) (Nat.le_of_ble_eq_true rfl) (bX4_knowsAll_b0 a0 a1 oa0 oa1 M h)
abbrev xX5_has : XX := (yX5_has, cX5_has, 2, (some .boolean), 0, 0, 0, 0)
def sX5_has_b0 (a0 : Nat) (x1 : Int) (M : MM)   : Int := (if wI x1 < 0 then 0 else (if wI (M a0 3) ≤ wI x1 then 0 else 1))
def sX5_has (a0 : Nat) (x1 : Int) (M : MM) : Int := sX5_has_b0 a0 x1 M
set_option maxHeartbeats 4000000 in
set_option maxRecDepth 100000 in
theorem bX5_has_b0 {G : GG} (a0 : Nat) (x1 : Int) (M : MM) (oa0 : OB L0 a0 5)  {res : Int}  (h : sX5_has_b0 a0 x1 M = res) : VV G xX5_has (ZM G xX5_has (some (.int (eI res))) L0 M) L0 M 0 0 0 [(0, .ref (gA G a0)), (1, .int (eI x1))] [] := by
  unfold sX5_has_b0 at h
  refine r_iload_n (pc := 0) (i := 1) dX5_has_0 rfl 1 rfl ?_
  refine r_if_lt (pc := 1) (tgt := 16) dX5_has_1 (by decide) rfl (fun c_1 => ?_) (fun c_1 => ?_)
  · replace h := (if_pos c_1).symm.trans h
    refine r_iconst (pc := 16) (v := 0) dX5_has_16 (by decide +kernel) ?_
    cases h
    exact r_iret (pc := 17) rfl (zn_ok (Or.inl rfl)).1 (Nat.le_refl 0) (Nat.le_refl 0) dX5_has_17
  · replace h := (if_neg c_1).symm.trans h
    refine r_iload_n (pc := 4) (i := 1) dX5_has_4 rfl 1 rfl ?_
    refine r_aload_n (pc := 5) (i := 0) dX5_has_5 rfl 0 rfl ?_
    refine r_getI (pc := 6) fg_5_46 rfl oa0 dX5_has_6 ?_
    refine r_icmp_ge (pc := 9) (tgt := 16) dX5_has_9 (by decide) rfl rfl (fun c_2 => ?_) (fun c_2 => ?_)
    · replace h := (if_pos c_2).symm.trans h
      refine r_iconst (pc := 16) (v := 0) dX5_has_16 (by decide +kernel) ?_
      cases h
      exact r_iret (pc := 17) rfl (zn_ok (Or.inl rfl)).1 (Nat.le_refl 0) (Nat.le_refl 0) dX5_has_17
    · replace h := (if_neg c_2).symm.trans h
      refine r_iconst (pc := 12) (v := 1) dX5_has_12 (by decide +kernel) ?_
      refine r_goto (pc := 13) (tgt := 17) dX5_has_13 (by decide) ?_
      cases h
      exact r_iret (pc := 17) rfl (zn_ok (Or.inr rfl)).1 (Nat.le_refl 0) (Nat.le_refl 0) dX5_has_17
theorem kX5_has {G : GG} (a0 : Nat) (x1 : Int) (M : MM) (oa0 : OB L0 a0 5) : CO G xX5_has [.ref (gA G a0), .int (eI x1)] L0 M (some (.int (eI (sX5_has a0 x1 M)))) L0 M := CO_of (by decide +kernel) (Nat.le_of_ble_eq_true rfl) (bX5_has_b0 a0 x1 M oa0 rfl)
abbrev xX4_isBetterLifted : XX := (yX4_isBetterLifted, cX4_isBetterLifted, 6, (some .boolean), 3, 67, 0, 0)
theorem ck_X4_isBetterLifted_123 : CKV xX4_isBetterLifted 123 xX4_bestAt 2 := ⟨⟨tb_i 1109 (by decide +kernel) (by decide +kernel), tb_i 149 (by decide +kernel) (by decide +kernel), tb_i 1112 (by decide +kernel) (by decide +kernel), ⟨by decide +kernel, by decide +kernel, by decide +kernel⟩, by decide, by decide⟩, tb_i 1110 (by decide +kernel) (by decide +kernel), tb_i 1111 (by decide +kernel) (by decide +kernel)⟩
theorem ck_X4_isBetterLifted_127 : CKV xX4_isBetterLifted 127 xX4_ifNotLifted 4 := ⟨⟨tb_i 1113 (by decide +kernel) (by decide +kernel), tb_i 149 (by decide +kernel) (by decide +kernel), tb_i 1116 (by decide +kernel) (by decide +kernel), ⟨by decide +kernel, by decide +kernel, by decide +kernel⟩, by decide, by decide⟩, tb_i 1115 (by decide +kernel) (by decide +kernel), tb_i 32 (by decide +kernel) (by decide +kernel)⟩
theorem ck_X4_isBetterLifted_135 : CKV xX4_isBetterLifted 135 xX5_has 1 := ⟨⟨tb_i 1129 (by decide +kernel) (by decide +kernel), tb_i 141 (by decide +kernel) (by decide +kernel), tb_i 881 (by decide +kernel) (by decide +kernel), ⟨by decide +kernel, by decide +kernel, by decide +kernel⟩, by decide, by decide⟩, tb_i 879 (by decide +kernel) (by decide +kernel), tb_i 880 (by decide +kernel) (by decide +kernel)⟩
def sX4_isBetterLifted_b0 (a0 : Nat) (a1 : Nat) (x2 : Int) (x3 : Int) (x4 : Int) (M : MM)   : Option Int := (if wI (sX5_has a1 x2 M) = 0 then (some (0)) else ((sX4_bestAt a0 (((x2 * (M a1 12)) + x3) + 1) x4 M).bind fun q_2 => ((sX4_ifNotLifted a0 a1 x2 ((x2 * (M a1 12)) + x3) x4 M).bind fun q_3 => (if wJ q_2 ≤ wJ q_3 then (some (0)) else (some (1))))))
def sX4_isBetterLifted (a0 : Nat) (a1 : Nat) (x2 : Int) (x3 : Int) (x4 : Int) (M : MM) : Option Int := sX4_isBetterLifted_b0 a0 a1 x2 x3 x4 M
set_option maxHeartbeats 4000000 in
set_option maxRecDepth 100000 in
theorem bX4_isBetterLifted_b0 {G : GG} (a0 : Nat) (a1 : Nat) (x2 : Int) (x3 : Int) (x4 : Int) (M : MM) (oa0 : OB L0 a0 4) (oa1 : OB L0 a1 5)  {res : Int}  (h : sX4_isBetterLifted_b0 a0 a1 x2 x3 x4 M = some res) : VV G xX4_isBetterLifted (ZM G xX4_isBetterLifted (some (.int (eI res))) L0 M) L0 M 0 0 0 [(0, .ref (gA G a0)), (1, .ref (gA G a1)), (2, .int (eI x2)), (3, .int (eI x3)), (4, .int (eI x4))] [] := by
  unfold sX4_isBetterLifted_b0 at h
  refine r_iload_n (pc := 0) (i := 2) dX4_isBetterLifted_0 rfl 2 rfl ?_
  refine r_aload_n (pc := 1) (i := 1) dX4_isBetterLifted_1 rfl 1 rfl ?_
  refine r_getI (pc := 2) fg_4_34 rfl oa1 dX4_isBetterLifted_2 ?_
  refine r_imul (pc := 5) dX4_isBetterLifted_5 ?_
  refine r_iload_n (pc := 6) (i := 3) dX4_isBetterLifted_6 rfl 3 rfl ?_
  refine r_iadd (pc := 7) dX4_isBetterLifted_7 ?_
  refine r_istore (pc := 8) (lv' := [(5, .int (eI ((x2 * (M a1 12)) + x3))), (0, .ref (gA G a0)), (1, .ref (gA G a1)), (2, .int (eI x2)), (3, .int (eI x3)), (4, .int (eI x4))]) dX4_isBetterLifted_8 (Nat.le_of_ble_eq_true rfl) rfl ?_
  refine r_aload_n (pc := 10) (i := 1) dX4_isBetterLifted_10 rfl 2 rfl ?_
  refine r_iload_n (pc := 11) (i := 2) dX4_isBetterLifted_11 rfl 3 rfl ?_
  refine r_cV (pc := 12) (Y := xX5_has) (As := [.int (eI x2)]) (rest := []) (v := (some (.int (eI (sX5_has a1 x2 M))))) (st1 := [.int (eI (sX5_has a1 x2 M))]) ck_X4_isBetterLifted_135 (kX5_has a1 x2 M oa1) oa1 rfl rfl rfl rfl (Nat.le_of_ble_eq_true rfl) ⟨rfl, rfl⟩ rfl dX4_isBetterLifted_12 ?_
  refine r_if_eq (pc := 15) (tgt := 46) dX4_isBetterLifted_15 (by decide) rfl (fun c_1 => ?_) (fun c_1 => ?_)
  · replace h := (if_pos c_1).symm.trans h
    refine r_iconst (pc := 46) (v := 0) dX4_isBetterLifted_46 (by decide +kernel) ?_
    cases h
    exact r_iret (pc := 47) rfl (zn_ok (Or.inl rfl)).1 (Nat.le_refl 0) (Nat.le_refl 0) dX4_isBetterLifted_47
  · replace h := (if_neg c_1).symm.trans h
    refine r_aload_n (pc := 18) (i := 0) dX4_isBetterLifted_18 rfl 1 rfl ?_
    refine r_iload (pc := 19) dX4_isBetterLifted_19 0 rfl ?_
    refine r_iconst (pc := 21) (v := 1) dX4_isBetterLifted_21 (by decide +kernel) ?_
    refine r_iadd (pc := 22) dX4_isBetterLifted_22 ?_
    refine r_iload (pc := 23) dX4_isBetterLifted_23 5 rfl ?_
    obtain ⟨q_2, hq_2, h⟩ := ob h
    refine r_cV (pc := 25) (Y := xX4_bestAt) (As := [.int (eI (((x2 * (M a1 12)) + x3) + 1)), .int (eI x4)]) (rest := []) (v := (some (.long (eJ q_2)))) (st1 := [.long (eJ q_2)]) ck_X4_isBetterLifted_123 (kX4_bestAt a0 (((x2 * (M a1 12)) + x3) + 1) x4 M oa0 hq_2) oa0 rfl rfl rfl rfl (Nat.le_of_ble_eq_true rfl) ⟨rfl, rfl⟩ rfl dX4_isBetterLifted_25 ?_
    refine r_aload_n (pc := 28) (i := 0) dX4_isBetterLifted_28 rfl 1 rfl ?_
    refine r_aload_n (pc := 29) (i := 1) dX4_isBetterLifted_29 rfl 2 rfl ?_
    refine r_iload_n (pc := 30) (i := 2) dX4_isBetterLifted_30 rfl 3 rfl ?_
    refine r_iload (pc := 31) dX4_isBetterLifted_31 0 rfl ?_
    refine r_iload (pc := 33) dX4_isBetterLifted_33 5 rfl ?_
    obtain ⟨q_3, hq_3, h⟩ := ob h
    refine r_cV (pc := 35) (Y := xX4_ifNotLifted) (As := [.ref (gA G a1), .int (eI x2), .int (eI ((x2 * (M a1 12)) + x3)), .int (eI x4)]) (rest := [.long (eJ q_2)]) (v := (some (.long (eJ q_3)))) (st1 := [.long (eJ q_3), .long (eJ q_2)]) ck_X4_isBetterLifted_127 (kX4_ifNotLifted a0 a1 x2 ((x2 * (M a1 12)) + x3) x4 M oa0 oa1 hq_3) oa0 rfl rfl rfl rfl (Nat.le_of_ble_eq_true rfl) ⟨rfl, rfl⟩ rfl dX4_isBetterLifted_35 ?_
    refine r_lcmp_le (pc := 38) (tgt := 46) dX4_isBetterLifted_38 dX4_isBetterLifted_39 (by decide) rfl rfl (fun c_4 => ?_) (fun c_4 => ?_)
    · replace h := (if_pos c_4).symm.trans h
      refine r_iconst (pc := 46) (v := 0) dX4_isBetterLifted_46 (by decide +kernel) ?_
      cases h
      exact r_iret (pc := 47) rfl (zn_ok (Or.inl rfl)).1 (Nat.le_refl 0) (Nat.le_refl 0) dX4_isBetterLifted_47
    · replace h := (if_neg c_4).symm.trans h
      refine r_iconst (pc := 42) (v := 1) dX4_isBetterLifted_42 (by decide +kernel) ?_
      refine r_goto (pc := 43) (tgt := 47) dX4_isBetterLifted_43 (by decide) ?_
      cases h
      exact r_iret (pc := 47) rfl (zn_ok (Or.inr rfl)).1 (Nat.le_refl 0) (Nat.le_refl 0) dX4_isBetterLifted_47
theorem kX4_isBetterLifted {G : GG} (a0 : Nat) (a1 : Nat) (x2 : Int) (x3 : Int) (x4 : Int) (M : MM) {res : Int} (oa0 : OB L0 a0 4) (oa1 : OB L0 a1 5) (h : sX4_isBetterLifted a0 a1 x2 x3 x4 M = some res) : CO G xX4_isBetterLifted [.ref (gA G a0), .ref (gA G a1), .int (eI x2), .int (eI x3), .int (eI x4)] L0 M (some (.int (eI res))) L0 M := CO_of (by decide +kernel) (Nat.le_of_ble_eq_true rfl) (bX4_isBetterLifted_b0 a0 a1 x2 x3 x4 M oa0 oa1 h)
abbrev xX5_clear : XX := (yX5_clear, cX5_clear, 2, none, 0, 0, 0, 0)
def sX5_clear_b75 (a0 : Nat)  : Nat → Int → MM → Option MM
  | 0, _, _ => none
  | n + 1, x1, M => (if 3 ≤ wI x1 then ((some (mU M a0 12 3)).bind fun M_2 => ((some (mU M_2 a0 13 16)).bind fun M_3 => ((some (mU M_3 a0 14 20)).bind fun M_4 => ((some (mU M_4 a0 15 2)).bind fun M_5 => ((some (mU M_5 a0 16 1)).bind fun M_6 => (some (M_6))))))) else (if 0 ≤ wI x1 ∧ wI x1 < 3 then ((some (mU M (gR a0 11) (wI x1).toNat 1)).bind fun M_9 => ((some (x1 + 1)).bind fun v_10 => (sX5_clear_b75 a0 n v_10 M_9))) else none))
def sX5_clear_b54 (a0 : Nat)  : Nat → Int → MM → Option MM
  | 0, _, _ => none
  | n + 1, x1, M => (if 8 ≤ wI x1 then (sX5_clear_b75 a0 FU 0 M) else (if 0 ≤ wI x1 ∧ wI x1 < 8 then ((some (mU M (gR a0 10) (wI x1).toNat 1)).bind fun M_4 => ((some (x1 + 1)).bind fun v_5 => (sX5_clear_b54 a0 n v_5 M_4))) else none))
def sX5_clear_b33 (a0 : Nat)  : Nat → Int → MM → Option MM
  | 0, _, _ => none
  | n + 1, x1, M => (if 64 ≤ wI x1 then (sX5_clear_b54 a0 FU 0 M) else (if 0 ≤ wI x1 ∧ wI x1 < 64 then ((some (mU M (gR a0 9) (wI x1).toNat 1)).bind fun M_4 => ((some (x1 + 1)).bind fun v_5 => (sX5_clear_b33 a0 n v_5 M_4))) else none))
def sX5_clear_b12 (a0 : Nat)  : Nat → Int → MM → Option MM
  | 0, _, _ => none
  | n + 1, x1, M => (if 8 ≤ wI x1 then (sX5_clear_b33 a0 FU 0 M) else (if 0 ≤ wI x1 ∧ wI x1 < 8 then ((some (mU M (gR a0 8) (wI x1).toNat 0)).bind fun M_4 => ((some (x1 + 1)).bind fun v_5 => (sX5_clear_b12 a0 n v_5 M_4))) else none))
def sX5_clear_b0 (a0 : Nat)   (M : MM) : Option MM := ((some (mU M a0 0 0)).bind fun M_1 => ((some (mU M_1 a0 3 0)).bind fun M_2 => (sX5_clear_b12 a0 FU 0 M_2)))
def sX5_clear (a0 : Nat) (M : MM) : Option MM := sX5_clear_b0 a0 M
set_option maxHeartbeats 4000000 in
set_option maxRecDepth 100000 in
theorem bX5_clear_b75 {G : GG} (a0 : Nat) (oa0 : OB L0 a0 5) {res : MM} : ∀ (n : Nat) (x1 : Int) (M : MM)  (h : sX5_clear_b75 a0 n x1 M = some res), VV G xX5_clear (ZM G xX5_clear (none) L0 res) L0 M 0 0 75 [(0, .ref (gA G a0)), (1, .int (eI x1))] [] := by
  intro n
  induction n with
  | zero =>
    intro x1 M h
    rw [sX5_clear_b75] at h
    cases h
  | succ n ih =>
    intro x1 M h
    rw [sX5_clear_b75] at h
    refine r_iload_n (pc := 75) (i := 1) dX5_clear_75 rfl 1 rfl ?_
    refine r_iconst (pc := 76) (v := 3) dX5_clear_76 (by decide +kernel) ?_
    refine r_icmp_ge (pc := 77) (tgt := 93) dX5_clear_77 (by decide) rfl wl_3 (fun c_1 => ?_) (fun c_1 => ?_)
    · replace h := (if_pos c_1).symm.trans h
      refine r_aload_n (pc := 93) (i := 0) dX5_clear_93 rfl 0 rfl ?_
      refine r_iconst (pc := 94) (v := 3) dX5_clear_94 (by decide +kernel) ?_
      obtain ⟨M_2, hM_2, h⟩ := ob h
      refine r_putI (pc := 95) fg_5_49 rfl oa0 hM_2 rfl rfl dX5_clear_95 ?_
      refine r_aload_n (pc := 98) (i := 0) dX5_clear_98 rfl 0 rfl ?_
      refine r_bipush (pc := 99) (v := 16) dX5_clear_99 (by decide +kernel) ?_
      obtain ⟨M_3, hM_3, h⟩ := ob h
      refine r_putI (pc := 101) fg_5_52 rfl oa0 hM_3 rfl rfl dX5_clear_101 ?_
      refine r_aload_n (pc := 104) (i := 0) dX5_clear_104 rfl 0 rfl ?_
      refine r_bipush (pc := 105) (v := 20) dX5_clear_105 (by decide +kernel) ?_
      obtain ⟨M_4, hM_4, h⟩ := ob h
      refine r_putI (pc := 107) fg_5_55 rfl oa0 hM_4 rfl rfl dX5_clear_107 ?_
      refine r_aload_n (pc := 110) (i := 0) dX5_clear_110 rfl 0 rfl ?_
      refine r_iconst (pc := 111) (v := 2) dX5_clear_111 (by decide +kernel) ?_
      obtain ⟨M_5, hM_5, h⟩ := ob h
      refine r_putI (pc := 112) fg_5_58 rfl oa0 hM_5 rfl rfl dX5_clear_112 ?_
      refine r_aload_n (pc := 115) (i := 0) dX5_clear_115 rfl 0 rfl ?_
      refine r_iconst (pc := 116) (v := 1) dX5_clear_116 (by decide +kernel) ?_
      obtain ⟨M_6, hM_6, h⟩ := ob h
      refine r_putI (pc := 117) fg_5_61 rfl oa0 hM_6 rfl rfl dX5_clear_117 ?_
      cases h
      exact r_vret (pc := 120) rfl (Nat.le_refl 0) (Nat.le_refl 0) dX5_clear_120
    · replace h := (if_neg c_1).symm.trans h
      refine r_aload_n (pc := 80) (i := 0) dX5_clear_80 rfl 0 rfl ?_
      have o_7 := (wt_5_11 oa0).2
      refine r_getR (pc := 81) fg_5_39 rfl oa0 (wt_5_11 oa0).1 dX5_clear_81 ?_
      refine r_iload_n (pc := 84) (i := 1) dX5_clear_84 rfl 1 rfl ?_
      refine r_iconst (pc := 85) (v := 1) dX5_clear_85 (by decide +kernel) ?_
      obtain ⟨c_8, h⟩ := og h
      obtain ⟨M_9, hM_9, h⟩ := ob h
      refine r_iast (pc := 86) o_7 rfl c_8 rfl hM_9 dX5_clear_86 ?_
      obtain ⟨v_10, hv_10, h⟩ := ob h
      refine r_iinc (pc := 87) (y := v_10) (lv' := [(1, .int (eI v_10)), (0, .ref (gA G a0))]) dX5_clear_87 1 rfl (Option.some.inj hv_10) (Nat.le_of_ble_eq_true rfl) rfl ?_
      refine r_goto (pc := 90) (tgt := 75) dX5_clear_90 (by decide) ?_
      refine r_sub (lv' := [(0, .ref (gA G a0)), (1, .int (eI v_10))]) [1, 0] rfl ?_
      exact ih _ _ h
set_option maxHeartbeats 4000000 in
set_option maxRecDepth 100000 in
theorem bX5_clear_b54 {G : GG} (a0 : Nat) (oa0 : OB L0 a0 5) {res : MM} : ∀ (n : Nat) (x1 : Int) (M : MM)  (h : sX5_clear_b54 a0 n x1 M = some res), VV G xX5_clear (ZM G xX5_clear (none) L0 res) L0 M 0 0 54 [(0, .ref (gA G a0)), (1, .int (eI x1))] [] := by
  intro n
  induction n with
  | zero =>
    intro x1 M h
    rw [sX5_clear_b54] at h
    cases h
  | succ n ih =>
    intro x1 M h
    rw [sX5_clear_b54] at h
    refine r_iload_n (pc := 54) (i := 1) dX5_clear_54 rfl 1 rfl ?_
    refine r_bipush (pc := 55) (v := 8) dX5_clear_55 (by decide +kernel) ?_
    refine r_icmp_ge (pc := 57) (tgt := 73) dX5_clear_57 (by decide) rfl wl_8 (fun c_1 => ?_) (fun c_1 => ?_)
    · replace h := (if_pos c_1).symm.trans h
      refine r_iconst (pc := 73) (v := 0) dX5_clear_73 (by decide +kernel) ?_
      refine r_istore_n (pc := 74) (i := 1) (lv' := [(1, .int (eI 0)), (0, .ref (gA G a0))]) dX5_clear_74 rfl (Nat.le_of_ble_eq_true rfl) rfl ?_
      refine r_sub (lv' := [(0, .ref (gA G a0)), (1, .int (eI 0))]) [1, 0] rfl ?_
      exact bX5_clear_b75 a0 oa0 _ _ _ h
    · replace h := (if_neg c_1).symm.trans h
      refine r_aload_n (pc := 60) (i := 0) dX5_clear_60 rfl 0 rfl ?_
      have o_2 := (wt_5_10 oa0).2
      refine r_getR (pc := 61) fg_5_36 rfl oa0 (wt_5_10 oa0).1 dX5_clear_61 ?_
      refine r_iload_n (pc := 64) (i := 1) dX5_clear_64 rfl 1 rfl ?_
      refine r_iconst (pc := 65) (v := 1) dX5_clear_65 (by decide +kernel) ?_
      obtain ⟨c_3, h⟩ := og h
      obtain ⟨M_4, hM_4, h⟩ := ob h
      refine r_iast (pc := 66) o_2 rfl c_3 rfl hM_4 dX5_clear_66 ?_
      obtain ⟨v_5, hv_5, h⟩ := ob h
      refine r_iinc (pc := 67) (y := v_5) (lv' := [(1, .int (eI v_5)), (0, .ref (gA G a0))]) dX5_clear_67 1 rfl (Option.some.inj hv_5) (Nat.le_of_ble_eq_true rfl) rfl ?_
      refine r_goto (pc := 70) (tgt := 54) dX5_clear_70 (by decide) ?_
      refine r_sub (lv' := [(0, .ref (gA G a0)), (1, .int (eI v_5))]) [1, 0] rfl ?_
      exact ih _ _ h
set_option maxHeartbeats 4000000 in
set_option maxRecDepth 100000 in
theorem bX5_clear_b33 {G : GG} (a0 : Nat) (oa0 : OB L0 a0 5) {res : MM} : ∀ (n : Nat) (x1 : Int) (M : MM)  (h : sX5_clear_b33 a0 n x1 M = some res), VV G xX5_clear (ZM G xX5_clear (none) L0 res) L0 M 0 0 33 [(0, .ref (gA G a0)), (1, .int (eI x1))] [] := by
  intro n
  induction n with
  | zero =>
    intro x1 M h
    rw [sX5_clear_b33] at h
    cases h
  | succ n ih =>
    intro x1 M h
    rw [sX5_clear_b33] at h
    refine r_iload_n (pc := 33) (i := 1) dX5_clear_33 rfl 1 rfl ?_
    refine r_bipush (pc := 34) (v := 64) dX5_clear_34 (by decide +kernel) ?_
    refine r_icmp_ge (pc := 36) (tgt := 52) dX5_clear_36 (by decide) rfl wl_64 (fun c_1 => ?_) (fun c_1 => ?_)
    · replace h := (if_pos c_1).symm.trans h
      refine r_iconst (pc := 52) (v := 0) dX5_clear_52 (by decide +kernel) ?_
      refine r_istore_n (pc := 53) (i := 1) (lv' := [(1, .int (eI 0)), (0, .ref (gA G a0))]) dX5_clear_53 rfl (Nat.le_of_ble_eq_true rfl) rfl ?_
      refine r_sub (lv' := [(0, .ref (gA G a0)), (1, .int (eI 0))]) [1, 0] rfl ?_
      exact bX5_clear_b54 a0 oa0 _ _ _ h
    · replace h := (if_neg c_1).symm.trans h
      refine r_aload_n (pc := 39) (i := 0) dX5_clear_39 rfl 0 rfl ?_
      have o_2 := (wt_5_9 oa0).2
      refine r_getR (pc := 40) fg_5_33 rfl oa0 (wt_5_9 oa0).1 dX5_clear_40 ?_
      refine r_iload_n (pc := 43) (i := 1) dX5_clear_43 rfl 1 rfl ?_
      refine r_iconst (pc := 44) (v := 1) dX5_clear_44 (by decide +kernel) ?_
      obtain ⟨c_3, h⟩ := og h
      obtain ⟨M_4, hM_4, h⟩ := ob h
      refine r_iast (pc := 45) o_2 rfl c_3 rfl hM_4 dX5_clear_45 ?_
      obtain ⟨v_5, hv_5, h⟩ := ob h
      refine r_iinc (pc := 46) (y := v_5) (lv' := [(1, .int (eI v_5)), (0, .ref (gA G a0))]) dX5_clear_46 1 rfl (Option.some.inj hv_5) (Nat.le_of_ble_eq_true rfl) rfl ?_
      refine r_goto (pc := 49) (tgt := 33) dX5_clear_49 (by decide) ?_
      refine r_sub (lv' := [(0, .ref (gA G a0)), (1, .int (eI v_5))]) [1, 0] rfl ?_
      exact ih _ _ h
set_option maxHeartbeats 4000000 in
set_option maxRecDepth 100000 in
theorem bX5_clear_b12 {G : GG} (a0 : Nat) (oa0 : OB L0 a0 5) {res : MM} : ∀ (n : Nat) (x1 : Int) (M : MM)  (h : sX5_clear_b12 a0 n x1 M = some res), VV G xX5_clear (ZM G xX5_clear (none) L0 res) L0 M 0 0 12 [(0, .ref (gA G a0)), (1, .int (eI x1))] [] := by
  intro n
  induction n with
  | zero =>
    intro x1 M h
    rw [sX5_clear_b12] at h
    cases h
  | succ n ih =>
    intro x1 M h
    rw [sX5_clear_b12] at h
    refine r_iload_n (pc := 12) (i := 1) dX5_clear_12 rfl 1 rfl ?_
    refine r_bipush (pc := 13) (v := 8) dX5_clear_13 (by decide +kernel) ?_
    refine r_icmp_ge (pc := 15) (tgt := 31) dX5_clear_15 (by decide) rfl wl_8 (fun c_1 => ?_) (fun c_1 => ?_)
    · replace h := (if_pos c_1).symm.trans h
      refine r_iconst (pc := 31) (v := 0) dX5_clear_31 (by decide +kernel) ?_
      refine r_istore_n (pc := 32) (i := 1) (lv' := [(1, .int (eI 0)), (0, .ref (gA G a0))]) dX5_clear_32 rfl (Nat.le_of_ble_eq_true rfl) rfl ?_
      refine r_sub (lv' := [(0, .ref (gA G a0)), (1, .int (eI 0))]) [1, 0] rfl ?_
      exact bX5_clear_b33 a0 oa0 _ _ _ h
    · replace h := (if_neg c_1).symm.trans h
      refine r_aload_n (pc := 18) (i := 0) dX5_clear_18 rfl 0 rfl ?_
      have o_2 := (wt_5_8 oa0).2
      refine r_getR (pc := 19) fg_5_30 rfl oa0 (wt_5_8 oa0).1 dX5_clear_19 ?_
      refine r_iload_n (pc := 22) (i := 1) dX5_clear_22 rfl 1 rfl ?_
      refine r_iconst (pc := 23) (v := 0) dX5_clear_23 (by decide +kernel) ?_
      obtain ⟨c_3, h⟩ := og h
      obtain ⟨M_4, hM_4, h⟩ := ob h
      refine r_iast (pc := 24) o_2 rfl c_3 rfl hM_4 dX5_clear_24 ?_
      obtain ⟨v_5, hv_5, h⟩ := ob h
      refine r_iinc (pc := 25) (y := v_5) (lv' := [(1, .int (eI v_5)), (0, .ref (gA G a0))]) dX5_clear_25 1 rfl (Option.some.inj hv_5) (Nat.le_of_ble_eq_true rfl) rfl ?_
      refine r_goto (pc := 28) (tgt := 12) dX5_clear_28 (by decide) ?_
      refine r_sub (lv' := [(0, .ref (gA G a0)), (1, .int (eI v_5))]) [1, 0] rfl ?_
      exact ih _ _ h
set_option maxHeartbeats 4000000 in
set_option maxRecDepth 100000 in
theorem bX5_clear_b0 {G : GG} (a0 : Nat) (oa0 : OB L0 a0 5)  (M : MM) {res : MM}  (h : sX5_clear_b0 a0 M = some res) : VV G xX5_clear (ZM G xX5_clear (none) L0 res) L0 M 0 0 0 [(0, .ref (gA G a0))] [] := by
  unfold sX5_clear_b0 at h
  refine r_aload_n (pc := 0) (i := 0) dX5_clear_0 rfl 0 rfl ?_
  refine r_iconst (pc := 1) (v := 0) dX5_clear_1 (by decide +kernel) ?_
  obtain ⟨M_1, hM_1, h⟩ := ob h
  refine r_putI (pc := 2) fg_5_42 rfl oa0 hM_1 rfl rfl dX5_clear_2 ?_
  refine r_aload_n (pc := 5) (i := 0) dX5_clear_5 rfl 0 rfl ?_
  refine r_iconst (pc := 6) (v := 0) dX5_clear_6 (by decide +kernel) ?_
  obtain ⟨M_2, hM_2, h⟩ := ob h
  refine r_putI (pc := 7) fg_5_46 rfl oa0 hM_2 rfl rfl dX5_clear_7 ?_
  refine r_iconst (pc := 10) (v := 0) dX5_clear_10 (by decide +kernel) ?_
  refine r_istore_n (pc := 11) (i := 1) (lv' := [(1, .int (eI 0)), (0, .ref (gA G a0))]) dX5_clear_11 rfl (Nat.le_of_ble_eq_true rfl) rfl ?_
  refine r_sub (lv' := [(0, .ref (gA G a0)), (1, .int (eI 0))]) [1, 0] rfl ?_
  exact bX5_clear_b12 a0 oa0 _ _ _ h
theorem kX5_clear {G : GG} (a0 : Nat) (M : MM) {res : MM} (oa0 : OB L0 a0 5) (h : sX5_clear a0 M = some res) : CO G xX5_clear [.ref (gA G a0)] L0 M (none) L0 res := CO_of (by decide +kernel) (Nat.le_of_ble_eq_true rfl) (bX5_clear_b0 a0 oa0 M h)
abbrev xX5_mayStrike : XX := (yX5_mayStrike, cX5_mayStrike, 2, (some .boolean), 1, 21, 0, 0)
theorem ck_X5_mayStrike_64 : CKV xX5_mayStrike 64 xX5_has 1 := ⟨⟨tb_i 886 (by decide +kernel) (by decide +kernel), tb_i 141 (by decide +kernel) (by decide +kernel), tb_i 881 (by decide +kernel) (by decide +kernel), ⟨by decide +kernel, by decide +kernel, by decide +kernel⟩, by decide, by decide⟩, tb_i 879 (by decide +kernel) (by decide +kernel), tb_i 880 (by decide +kernel) (by decide +kernel)⟩
def sX5_mayStrike_b0 (a0 : Nat) (x1 : Int) (M : MM)   : Int := (if wI x1 = (-1) then 1 else (if wI (sX5_has a0 x1 M) = 0 then 0 else 1))
def sX5_mayStrike (a0 : Nat) (x1 : Int) (M : MM) : Int := sX5_mayStrike_b0 a0 x1 M
set_option maxHeartbeats 4000000 in
set_option maxRecDepth 100000 in
theorem bX5_mayStrike_b0 {G : GG} (a0 : Nat) (x1 : Int) (M : MM) (oa0 : OB L0 a0 5)  {res : Int}  (h : sX5_mayStrike_b0 a0 x1 M = res) : VV G xX5_mayStrike (ZM G xX5_mayStrike (some (.int (eI res))) L0 M) L0 M 0 0 0 [(0, .ref (gA G a0)), (1, .int (eI x1))] [] := by
  unfold sX5_mayStrike_b0 at h
  refine r_iload_n (pc := 0) (i := 1) dX5_mayStrike_0 rfl 1 rfl ?_
  refine r_iconst (pc := 1) (v := (-1)) dX5_mayStrike_1 (by decide +kernel) ?_
  refine r_icmp_eq (pc := 2) (tgt := 13) dX5_mayStrike_2 (by decide) rfl wl_m1 (fun c_1 => ?_) (fun c_1 => ?_)
  · replace h := (if_pos c_1).symm.trans h
    refine r_iconst (pc := 13) (v := 1) dX5_mayStrike_13 (by decide +kernel) ?_
    refine r_goto (pc := 14) (tgt := 18) dX5_mayStrike_14 (by decide) ?_
    cases h
    exact r_iret (pc := 18) rfl (zn_ok (Or.inr rfl)).1 (Nat.le_refl 0) (Nat.le_refl 0) dX5_mayStrike_18
  · replace h := (if_neg c_1).symm.trans h
    refine r_aload_n (pc := 5) (i := 0) dX5_mayStrike_5 rfl 0 rfl ?_
    refine r_iload_n (pc := 6) (i := 1) dX5_mayStrike_6 rfl 1 rfl ?_
    refine r_cV (pc := 7) (Y := xX5_has) (As := [.int (eI x1)]) (rest := []) (v := (some (.int (eI (sX5_has a0 x1 M))))) (st1 := [.int (eI (sX5_has a0 x1 M))]) ck_X5_mayStrike_64 (kX5_has a0 x1 M oa0) oa0 rfl rfl rfl rfl (Nat.le_of_ble_eq_true rfl) ⟨rfl, rfl⟩ rfl dX5_mayStrike_7 ?_
    refine r_if_eq (pc := 10) (tgt := 17) dX5_mayStrike_10 (by decide) rfl (fun c_2 => ?_) (fun c_2 => ?_)
    · replace h := (if_pos c_2).symm.trans h
      refine r_iconst (pc := 17) (v := 0) dX5_mayStrike_17 (by decide +kernel) ?_
      cases h
      exact r_iret (pc := 18) rfl (zn_ok (Or.inl rfl)).1 (Nat.le_refl 0) (Nat.le_refl 0) dX5_mayStrike_18
    · replace h := (if_neg c_2).symm.trans h
      refine r_iconst (pc := 13) (v := 1) dX5_mayStrike_13 (by decide +kernel) ?_
      refine r_goto (pc := 14) (tgt := 18) dX5_mayStrike_14 (by decide) ?_
      cases h
      exact r_iret (pc := 18) rfl (zn_ok (Or.inr rfl)).1 (Nat.le_refl 0) (Nat.le_refl 0) dX5_mayStrike_18
theorem kX5_mayStrike {G : GG} (a0 : Nat) (x1 : Int) (M : MM) (oa0 : OB L0 a0 5) : CO G xX5_mayStrike [.ref (gA G a0), .int (eI x1)] L0 M (some (.int (eI (sX5_mayStrike a0 x1 M)))) L0 M := CO_of (by decide +kernel) (Nat.le_of_ble_eq_true rfl) (bX5_mayStrike_b0 a0 x1 M oa0 rfl)
abbrev xX5_canBeTold : XX := (yX5_canBeTold, cX5_canBeTold, 1, (some .boolean), 0, 0, 0, 0)
def sX5_canBeTold_b0 (a0 : Nat) (M : MM)   : Int := (if 15 < wI ((M a0 3) * (M a0 12)) then 0 else 1)
def sX5_canBeTold (a0 : Nat) (M : MM) : Int := sX5_canBeTold_b0 a0 M
set_option maxHeartbeats 4000000 in
set_option maxRecDepth 100000 in
theorem bX5_canBeTold_b0 {G : GG} (a0 : Nat) (M : MM) (oa0 : OB L0 a0 5)  {res : Int}  (h : sX5_canBeTold_b0 a0 M = res) : VV G xX5_canBeTold (ZM G xX5_canBeTold (some (.int (eI res))) L0 M) L0 M 0 0 0 [(0, .ref (gA G a0))] [] := by
  unfold sX5_canBeTold_b0 at h
  refine r_aload_n (pc := 0) (i := 0) dX5_canBeTold_0 rfl 0 rfl ?_
  refine r_getI (pc := 1) fg_5_46 rfl oa0 dX5_canBeTold_1 ?_
  refine r_aload_n (pc := 4) (i := 0) dX5_canBeTold_4 rfl 0 rfl ?_
  refine r_getI (pc := 5) fg_5_49 rfl oa0 dX5_canBeTold_5 ?_
  refine r_imul (pc := 8) dX5_canBeTold_8 ?_
  refine r_bipush (pc := 9) (v := 15) dX5_canBeTold_9 (by decide +kernel) ?_
  refine r_icmp_gt (pc := 11) (tgt := 18) dX5_canBeTold_11 (by decide) rfl wl_15 (fun c_1 => ?_) (fun c_1 => ?_)
  · replace h := (if_pos c_1).symm.trans h
    refine r_iconst (pc := 18) (v := 0) dX5_canBeTold_18 (by decide +kernel) ?_
    cases h
    exact r_iret (pc := 19) rfl (zn_ok (Or.inl rfl)).1 (Nat.le_refl 0) (Nat.le_refl 0) dX5_canBeTold_19
  · replace h := (if_neg c_1).symm.trans h
    refine r_iconst (pc := 14) (v := 1) dX5_canBeTold_14 (by decide +kernel) ?_
    refine r_goto (pc := 15) (tgt := 19) dX5_canBeTold_15 (by decide) ?_
    cases h
    exact r_iret (pc := 19) rfl (zn_ok (Or.inr rfl)).1 (Nat.le_refl 0) (Nat.le_refl 0) dX5_canBeTold_19
theorem kX5_canBeTold {G : GG} (a0 : Nat) (M : MM) (oa0 : OB L0 a0 5) : CO G xX5_canBeTold [.ref (gA G a0)] L0 M (some (.int (eI (sX5_canBeTold a0 M)))) L0 M := CO_of (by decide +kernel) (Nat.le_of_ble_eq_true rfl) (bX5_canBeTold_b0 a0 M oa0 rfl)
abbrev xX5_turnedOfAll : XX := (yX5_turnedOfAll, cX5_turnedOfAll, 3, (some .int), 0, 0, 0, 0)
def sX5_turnedOfAll_b4 (a0 : Nat) (M : MM)  : Nat → Int → Int → Option Int
  | 0, _, _ => none
  | n + 1, x1, x2 => (if 8 ≤ wI x2 then (some (x1)) else (if 0 ≤ wI x2 ∧ wI x2 < 8 then ((some (x1 + (M (gR a0 10) (wI x2).toNat))).bind fun v_4 => ((some (x2 + 1)).bind fun v_5 => (sX5_turnedOfAll_b4 a0 M n v_4 v_5))) else none))
def sX5_turnedOfAll_b0 (a0 : Nat) (M : MM)   : Option Int := (sX5_turnedOfAll_b4 a0 M FU 0 0)
def sX5_turnedOfAll (a0 : Nat) (M : MM) : Option Int := sX5_turnedOfAll_b0 a0 M
set_option maxHeartbeats 4000000 in
set_option maxRecDepth 100000 in
theorem bX5_turnedOfAll_b4 {G : GG} (a0 : Nat) (M : MM) (oa0 : OB L0 a0 5) {res : Int} : ∀ (n : Nat) (x1 : Int) (x2 : Int)  (h : sX5_turnedOfAll_b4 a0 M n x1 x2 = some res), VV G xX5_turnedOfAll (ZM G xX5_turnedOfAll (some (.int (eI res))) L0 M) L0 M 0 0 4 [(0, .ref (gA G a0)), (1, .int (eI x1)), (2, .int (eI x2))] [] := by
  intro n
  induction n with
  | zero =>
    intro x1 x2 h
    rw [sX5_turnedOfAll_b4] at h
    cases h
  | succ n ih =>
    intro x1 x2 h
    rw [sX5_turnedOfAll_b4] at h
    refine r_iload_n (pc := 4) (i := 2) dX5_turnedOfAll_4 rfl 2 rfl ?_
    refine r_bipush (pc := 5) (v := 8) dX5_turnedOfAll_5 (by decide +kernel) ?_
    refine r_icmp_ge (pc := 7) (tgt := 25) dX5_turnedOfAll_7 (by decide) rfl wl_8 (fun c_1 => ?_) (fun c_1 => ?_)
    · replace h := (if_pos c_1).symm.trans h
      refine r_iload_n (pc := 25) (i := 1) dX5_turnedOfAll_25 rfl 1 rfl ?_
      cases h
      exact r_iret (pc := 26) rfl rfl (Nat.le_refl 0) (Nat.le_refl 0) dX5_turnedOfAll_26
    · replace h := (if_neg c_1).symm.trans h
      refine r_iload_n (pc := 10) (i := 1) dX5_turnedOfAll_10 rfl 1 rfl ?_
      refine r_aload_n (pc := 11) (i := 0) dX5_turnedOfAll_11 rfl 0 rfl ?_
      have o_2 := (wt_5_10 oa0).2
      refine r_getR (pc := 12) fg_5_36 rfl oa0 (wt_5_10 oa0).1 dX5_turnedOfAll_12 ?_
      refine r_iload_n (pc := 15) (i := 2) dX5_turnedOfAll_15 rfl 2 rfl ?_
      obtain ⟨c_3, h⟩ := og h
      refine r_iald (pc := 16) o_2 rfl c_3 rfl dX5_turnedOfAll_16 ?_
      refine r_iadd (pc := 17) dX5_turnedOfAll_17 ?_
      obtain ⟨v_4, hv_4, h⟩ := ob h
      refine r_nmI (pc := 18) hv_4 ?_
      refine r_istore_n (pc := 18) (i := 1) (lv' := [(1, .int (eI v_4)), (0, .ref (gA G a0)), (2, .int (eI x2))]) dX5_turnedOfAll_18 rfl (Nat.le_of_ble_eq_true rfl) rfl ?_
      obtain ⟨v_5, hv_5, h⟩ := ob h
      refine r_iinc (pc := 19) (y := v_5) (lv' := [(2, .int (eI v_5)), (1, .int (eI v_4)), (0, .ref (gA G a0))]) dX5_turnedOfAll_19 2 rfl (Option.some.inj hv_5) (Nat.le_of_ble_eq_true rfl) rfl ?_
      refine r_goto (pc := 22) (tgt := 4) dX5_turnedOfAll_22 (by decide) ?_
      refine r_sub (lv' := [(0, .ref (gA G a0)), (1, .int (eI v_4)), (2, .int (eI v_5))]) [2, 1, 0] rfl ?_
      exact ih _ _ h
set_option maxHeartbeats 4000000 in
set_option maxRecDepth 100000 in
theorem bX5_turnedOfAll_b0 {G : GG} (a0 : Nat) (M : MM) (oa0 : OB L0 a0 5)  {res : Int}  (h : sX5_turnedOfAll_b0 a0 M = some res) : VV G xX5_turnedOfAll (ZM G xX5_turnedOfAll (some (.int (eI res))) L0 M) L0 M 0 0 0 [(0, .ref (gA G a0))] [] := by
  unfold sX5_turnedOfAll_b0 at h
  refine r_iconst (pc := 0) (v := 0) dX5_turnedOfAll_0 (by decide +kernel) ?_
  refine r_istore_n (pc := 1) (i := 1) (lv' := [(1, .int (eI 0)), (0, .ref (gA G a0))]) dX5_turnedOfAll_1 rfl (Nat.le_of_ble_eq_true rfl) rfl ?_
  refine r_iconst (pc := 2) (v := 0) dX5_turnedOfAll_2 (by decide +kernel) ?_
  refine r_istore_n (pc := 3) (i := 2) (lv' := [(2, .int (eI 0)), (1, .int (eI 0)), (0, .ref (gA G a0))]) dX5_turnedOfAll_3 rfl (Nat.le_of_ble_eq_true rfl) rfl ?_
  refine r_sub (lv' := [(0, .ref (gA G a0)), (1, .int (eI 0)), (2, .int (eI 0))]) [2, 1, 0] rfl ?_
  exact bX5_turnedOfAll_b4 a0 M oa0 _ _ _ h
theorem kX5_turnedOfAll {G : GG} (a0 : Nat) (M : MM) {res : Int} (oa0 : OB L0 a0 5) (h : sX5_turnedOfAll a0 M = some res) : CO G xX5_turnedOfAll [.ref (gA G a0)] L0 M (some (.int (eI res))) L0 M := CO_of (by decide +kernel) (Nat.le_of_ble_eq_true rfl) (bX5_turnedOfAll_b0 a0 M oa0 h)
abbrev xX5_isWhole : XX := (yX5_isWhole, cX5_isWhole, 1, (some .boolean), 1, 22, 0, 0)
theorem ck_X5_isWhole_68 : CKV xX5_isWhole 68 xX5_turnedOfAll 0 := ⟨⟨tb_i 827 (by decide +kernel) (by decide +kernel), tb_i 141 (by decide +kernel) (by decide +kernel), tb_i 830 (by decide +kernel) (by decide +kernel), ⟨by decide +kernel, by decide +kernel, by decide +kernel⟩, by decide, by decide⟩, tb_i 828 (by decide +kernel) (by decide +kernel), tb_i 829 (by decide +kernel) (by decide +kernel)⟩
def sX5_isWhole_b0 (a0 : Nat) (M : MM)   : Option Int := (if wI (M a0 0) ≤ 0 then (some (0)) else (if wI (M a0 3) ≤ 0 then (some (0)) else ((sX5_turnedOfAll a0 M).bind fun q_3 => (if wI q_3 ≤ 0 then (some (0)) else (some (1))))))
def sX5_isWhole (a0 : Nat) (M : MM) : Option Int := sX5_isWhole_b0 a0 M
set_option maxHeartbeats 4000000 in
set_option maxRecDepth 100000 in
theorem bX5_isWhole_b0 {G : GG} (a0 : Nat) (M : MM) (oa0 : OB L0 a0 5)  {res : Int}  (h : sX5_isWhole_b0 a0 M = some res) : VV G xX5_isWhole (ZM G xX5_isWhole (some (.int (eI res))) L0 M) L0 M 0 0 0 [(0, .ref (gA G a0))] [] := by
  unfold sX5_isWhole_b0 at h
  refine r_aload_n (pc := 0) (i := 0) dX5_isWhole_0 rfl 0 rfl ?_
  refine r_getI (pc := 1) fg_5_42 rfl oa0 dX5_isWhole_1 ?_
  refine r_if_le (pc := 4) (tgt := 25) dX5_isWhole_4 (by decide) rfl (fun c_1 => ?_) (fun c_1 => ?_)
  · replace h := (if_pos c_1).symm.trans h
    refine r_iconst (pc := 25) (v := 0) dX5_isWhole_25 (by decide +kernel) ?_
    cases h
    exact r_iret (pc := 26) rfl (zn_ok (Or.inl rfl)).1 (Nat.le_refl 0) (Nat.le_refl 0) dX5_isWhole_26
  · replace h := (if_neg c_1).symm.trans h
    refine r_aload_n (pc := 7) (i := 0) dX5_isWhole_7 rfl 0 rfl ?_
    refine r_getI (pc := 8) fg_5_46 rfl oa0 dX5_isWhole_8 ?_
    refine r_if_le (pc := 11) (tgt := 25) dX5_isWhole_11 (by decide) rfl (fun c_2 => ?_) (fun c_2 => ?_)
    · replace h := (if_pos c_2).symm.trans h
      refine r_iconst (pc := 25) (v := 0) dX5_isWhole_25 (by decide +kernel) ?_
      cases h
      exact r_iret (pc := 26) rfl (zn_ok (Or.inl rfl)).1 (Nat.le_refl 0) (Nat.le_refl 0) dX5_isWhole_26
    · replace h := (if_neg c_2).symm.trans h
      refine r_aload_n (pc := 14) (i := 0) dX5_isWhole_14 rfl 0 rfl ?_
      obtain ⟨q_3, hq_3, h⟩ := ob h
      refine r_cV (pc := 15) (Y := xX5_turnedOfAll) (As := []) (rest := []) (v := (some (.int (eI q_3)))) (st1 := [.int (eI q_3)]) ck_X5_isWhole_68 (kX5_turnedOfAll a0 M oa0 hq_3) oa0 rfl rfl rfl rfl (Nat.le_of_ble_eq_true rfl) ⟨rfl, rfl⟩ rfl dX5_isWhole_15 ?_
      refine r_if_le (pc := 18) (tgt := 25) dX5_isWhole_18 (by decide) rfl (fun c_4 => ?_) (fun c_4 => ?_)
      · replace h := (if_pos c_4).symm.trans h
        refine r_iconst (pc := 25) (v := 0) dX5_isWhole_25 (by decide +kernel) ?_
        cases h
        exact r_iret (pc := 26) rfl (zn_ok (Or.inl rfl)).1 (Nat.le_refl 0) (Nat.le_refl 0) dX5_isWhole_26
      · replace h := (if_neg c_4).symm.trans h
        refine r_iconst (pc := 21) (v := 1) dX5_isWhole_21 (by decide +kernel) ?_
        refine r_goto (pc := 22) (tgt := 26) dX5_isWhole_22 (by decide) ?_
        cases h
        exact r_iret (pc := 26) rfl (zn_ok (Or.inr rfl)).1 (Nat.le_refl 0) (Nat.le_refl 0) dX5_isWhole_26
theorem kX5_isWhole {G : GG} (a0 : Nat) (M : MM) {res : Int} (oa0 : OB L0 a0 5) (h : sX5_isWhole a0 M = some res) : CO G xX5_isWhole [.ref (gA G a0)] L0 M (some (.int (eI res))) L0 M := CO_of (by decide +kernel) (Nat.le_of_ble_eq_true rfl) (bX5_isWhole_b0 a0 M oa0 h)
abbrev xX5_addPart : XX := (yX5_addPart, cX5_addPart, 3, none, 0, 0, 0, 0)
def sX5_addPart_b0 (a0 : Nat) (x1 : Int) (x2 : Int)   (M : MM) : Option MM := (if 5 ≤ wI (M a0 0) then (some (M)) else (if 0 ≤ wI (M a0 0) ∧ wI (M a0 0) < 5 then ((some (mU M (gR a0 1) (wI (M a0 0)).toNat x1)).bind fun M_4 => (if 0 ≤ wI (M_4 a0 0) ∧ wI (M_4 a0 0) < 5 then ((some (mU M_4 (gR a0 2) (wI (M_4 a0 0)).toNat x2)).bind fun M_7 => ((some (mU M_7 a0 0 ((M_7 a0 0) + 1))).bind fun M_8 => (some (M_8)))) else none)) else none))
def sX5_addPart (a0 : Nat) (x1 : Int) (x2 : Int) (M : MM) : Option MM := sX5_addPart_b0 a0 x1 x2 M
set_option maxHeartbeats 4000000 in
set_option maxRecDepth 100000 in
theorem bX5_addPart_b0 {G : GG} (a0 : Nat) (x1 : Int) (x2 : Int) (oa0 : OB L0 a0 5)  (M : MM) {res : MM}  (h : sX5_addPart_b0 a0 x1 x2 M = some res) : VV G xX5_addPart (ZM G xX5_addPart (none) L0 res) L0 M 0 0 0 [(0, .ref (gA G a0)), (1, .int (eI x1)), (2, .int (eI x2))] [] := by
  unfold sX5_addPart_b0 at h
  refine r_aload_n (pc := 0) (i := 0) dX5_addPart_0 rfl 0 rfl ?_
  refine r_getI (pc := 1) fg_5_42 rfl oa0 dX5_addPart_1 ?_
  refine r_iconst (pc := 4) (v := 5) dX5_addPart_4 (by decide +kernel) ?_
  refine r_icmp_ge (pc := 5) (tgt := 38) dX5_addPart_5 (by decide) rfl wl_5 (fun c_1 => ?_) (fun c_1 => ?_)
  · replace h := (if_pos c_1).symm.trans h
    cases h
    exact r_vret (pc := 38) rfl (Nat.le_refl 0) (Nat.le_refl 0) dX5_addPart_38
  · replace h := (if_neg c_1).symm.trans h
    refine r_aload_n (pc := 8) (i := 0) dX5_addPart_8 rfl 0 rfl ?_
    have o_2 := (wt_5_1 oa0).2
    refine r_getR (pc := 9) fg_5_9 rfl oa0 (wt_5_1 oa0).1 dX5_addPart_9 ?_
    refine r_aload_n (pc := 12) (i := 0) dX5_addPart_12 rfl 0 rfl ?_
    refine r_getI (pc := 13) fg_5_42 rfl oa0 dX5_addPart_13 ?_
    refine r_iload_n (pc := 16) (i := 1) dX5_addPart_16 rfl 1 rfl ?_
    obtain ⟨c_3, h⟩ := og h
    obtain ⟨M_4, hM_4, h⟩ := ob h
    refine r_iast (pc := 17) o_2 rfl c_3 rfl hM_4 dX5_addPart_17 ?_
    refine r_aload_n (pc := 18) (i := 0) dX5_addPart_18 rfl 0 rfl ?_
    have o_5 := (wt_5_2 oa0).2
    refine r_getR (pc := 19) fg_5_15 rfl oa0 (wt_5_2 oa0).1 dX5_addPart_19 ?_
    refine r_aload_n (pc := 22) (i := 0) dX5_addPart_22 rfl 0 rfl ?_
    refine r_getI (pc := 23) fg_5_42 rfl oa0 dX5_addPart_23 ?_
    refine r_iload_n (pc := 26) (i := 2) dX5_addPart_26 rfl 2 rfl ?_
    obtain ⟨c_6, h⟩ := og h
    obtain ⟨M_7, hM_7, h⟩ := ob h
    refine r_iast (pc := 27) o_5 rfl c_6 rfl hM_7 dX5_addPart_27 ?_
    refine r_aload_n (pc := 28) (i := 0) dX5_addPart_28 rfl 0 rfl ?_
    refine r_dup (pc := 29) dX5_addPart_29 rfl ?_
    refine r_getI (pc := 30) fg_5_42 rfl oa0 dX5_addPart_30 ?_
    refine r_iconst (pc := 33) (v := 1) dX5_addPart_33 (by decide +kernel) ?_
    refine r_iadd (pc := 34) dX5_addPart_34 ?_
    obtain ⟨M_8, hM_8, h⟩ := ob h
    refine r_putI (pc := 35) fg_5_42 rfl oa0 hM_8 rfl rfl dX5_addPart_35 ?_
    cases h
    exact r_vret (pc := 38) rfl (Nat.le_refl 0) (Nat.le_refl 0) dX5_addPart_38
theorem kX5_addPart {G : GG} (a0 : Nat) (x1 : Int) (x2 : Int) (M : MM) {res : MM} (oa0 : OB L0 a0 5) (h : sX5_addPart a0 x1 x2 M = some res) : CO G xX5_addPart [.ref (gA G a0), .int (eI x1), .int (eI x2)] L0 M (none) L0 res := CO_of (by decide +kernel) (Nat.le_of_ble_eq_true rfl) (bX5_addPart_b0 a0 x1 x2 oa0 M h)
abbrev xX5_addChild : XX := (yX5_addChild, cX5_addChild, 5, none, 0, 0, 0, 0)
def sX5_addChild_b0 (a0 : Nat) (x1 : Int) (x2 : Int) (x3 : Int) (x4 : Int)   (M : MM) : Option MM := (if 8 ≤ wI (M a0 3) then (some (M)) else (if 0 ≤ wI (M a0 3) ∧ wI (M a0 3) < 8 then ((some (mU M (gR a0 4) (wI (M a0 3)).toNat x1)).bind fun M_4 => (if 0 ≤ wI (M_4 a0 3) ∧ wI (M_4 a0 3) < 8 then ((some (mU M_4 (gR a0 5) (wI (M_4 a0 3)).toNat x2)).bind fun M_7 => (if 0 ≤ wI (M_7 a0 3) ∧ wI (M_7 a0 3) < 8 then ((some (mU M_7 (gR a0 6) (wI (M_7 a0 3)).toNat x3)).bind fun M_10 => (if 0 ≤ wI (M_10 a0 3) ∧ wI (M_10 a0 3) < 8 then ((some (mU M_10 (gR a0 7) (wI (M_10 a0 3)).toNat x4)).bind fun M_13 => ((some (mU M_13 a0 3 ((M_13 a0 3) + 1))).bind fun M_14 => (some (M_14)))) else none)) else none)) else none)) else none))
def sX5_addChild (a0 : Nat) (x1 : Int) (x2 : Int) (x3 : Int) (x4 : Int) (M : MM) : Option MM := sX5_addChild_b0 a0 x1 x2 x3 x4 M
set_option maxHeartbeats 4000000 in
set_option maxRecDepth 100000 in
theorem bX5_addChild_b0 {G : GG} (a0 : Nat) (x1 : Int) (x2 : Int) (x3 : Int) (x4 : Int) (oa0 : OB L0 a0 5)  (M : MM) {res : MM}  (h : sX5_addChild_b0 a0 x1 x2 x3 x4 M = some res) : VV G xX5_addChild (ZM G xX5_addChild (none) L0 res) L0 M 0 0 0 [(0, .ref (gA G a0)), (1, .int (eI x1)), (2, .int (eI x2)), (3, .int (eI x3)), (4, .int (eI x4))] [] := by
  unfold sX5_addChild_b0 at h
  refine r_aload_n (pc := 0) (i := 0) dX5_addChild_0 rfl 0 rfl ?_
  refine r_getI (pc := 1) fg_5_46 rfl oa0 dX5_addChild_1 ?_
  refine r_bipush (pc := 4) (v := 8) dX5_addChild_4 (by decide +kernel) ?_
  refine r_icmp_ge (pc := 6) (tgt := 60) dX5_addChild_6 (by decide) rfl wl_8 (fun c_1 => ?_) (fun c_1 => ?_)
  · replace h := (if_pos c_1).symm.trans h
    cases h
    exact r_vret (pc := 60) rfl (Nat.le_refl 0) (Nat.le_refl 0) dX5_addChild_60
  · replace h := (if_neg c_1).symm.trans h
    refine r_aload_n (pc := 9) (i := 0) dX5_addChild_9 rfl 0 rfl ?_
    have o_2 := (wt_5_4 oa0).2
    refine r_getR (pc := 10) fg_5_18 rfl oa0 (wt_5_4 oa0).1 dX5_addChild_10 ?_
    refine r_aload_n (pc := 13) (i := 0) dX5_addChild_13 rfl 0 rfl ?_
    refine r_getI (pc := 14) fg_5_46 rfl oa0 dX5_addChild_14 ?_
    refine r_iload_n (pc := 17) (i := 1) dX5_addChild_17 rfl 1 rfl ?_
    obtain ⟨c_3, h⟩ := og h
    obtain ⟨M_4, hM_4, h⟩ := ob h
    refine r_iast (pc := 18) o_2 rfl c_3 rfl hM_4 dX5_addChild_18 ?_
    refine r_aload_n (pc := 19) (i := 0) dX5_addChild_19 rfl 0 rfl ?_
    have o_5 := (wt_5_5 oa0).2
    refine r_getR (pc := 20) fg_5_21 rfl oa0 (wt_5_5 oa0).1 dX5_addChild_20 ?_
    refine r_aload_n (pc := 23) (i := 0) dX5_addChild_23 rfl 0 rfl ?_
    refine r_getI (pc := 24) fg_5_46 rfl oa0 dX5_addChild_24 ?_
    refine r_iload_n (pc := 27) (i := 2) dX5_addChild_27 rfl 2 rfl ?_
    obtain ⟨c_6, h⟩ := og h
    obtain ⟨M_7, hM_7, h⟩ := ob h
    refine r_iast (pc := 28) o_5 rfl c_6 rfl hM_7 dX5_addChild_28 ?_
    refine r_aload_n (pc := 29) (i := 0) dX5_addChild_29 rfl 0 rfl ?_
    have o_8 := (wt_5_6 oa0).2
    refine r_getR (pc := 30) fg_5_24 rfl oa0 (wt_5_6 oa0).1 dX5_addChild_30 ?_
    refine r_aload_n (pc := 33) (i := 0) dX5_addChild_33 rfl 0 rfl ?_
    refine r_getI (pc := 34) fg_5_46 rfl oa0 dX5_addChild_34 ?_
    refine r_iload_n (pc := 37) (i := 3) dX5_addChild_37 rfl 3 rfl ?_
    obtain ⟨c_9, h⟩ := og h
    obtain ⟨M_10, hM_10, h⟩ := ob h
    refine r_iast (pc := 38) o_8 rfl c_9 rfl hM_10 dX5_addChild_38 ?_
    refine r_aload_n (pc := 39) (i := 0) dX5_addChild_39 rfl 0 rfl ?_
    have o_11 := (wt_5_7 oa0).2
    refine r_getR (pc := 40) fg_5_27 rfl oa0 (wt_5_7 oa0).1 dX5_addChild_40 ?_
    refine r_aload_n (pc := 43) (i := 0) dX5_addChild_43 rfl 0 rfl ?_
    refine r_getI (pc := 44) fg_5_46 rfl oa0 dX5_addChild_44 ?_
    refine r_iload (pc := 47) dX5_addChild_47 4 rfl ?_
    obtain ⟨c_12, h⟩ := og h
    obtain ⟨M_13, hM_13, h⟩ := ob h
    refine r_iast (pc := 49) o_11 rfl c_12 rfl hM_13 dX5_addChild_49 ?_
    refine r_aload_n (pc := 50) (i := 0) dX5_addChild_50 rfl 0 rfl ?_
    refine r_dup (pc := 51) dX5_addChild_51 rfl ?_
    refine r_getI (pc := 52) fg_5_46 rfl oa0 dX5_addChild_52 ?_
    refine r_iconst (pc := 55) (v := 1) dX5_addChild_55 (by decide +kernel) ?_
    refine r_iadd (pc := 56) dX5_addChild_56 ?_
    obtain ⟨M_14, hM_14, h⟩ := ob h
    refine r_putI (pc := 57) fg_5_46 rfl oa0 hM_14 rfl rfl dX5_addChild_57 ?_
    cases h
    exact r_vret (pc := 60) rfl (Nat.le_refl 0) (Nat.le_refl 0) dX5_addChild_60
theorem kX5_addChild {G : GG} (a0 : Nat) (x1 : Int) (x2 : Int) (x3 : Int) (x4 : Int) (M : MM) {res : MM} (oa0 : OB L0 a0 5) (h : sX5_addChild a0 x1 x2 x3 x4 M = some res) : CO G xX5_addChild [.ref (gA G a0), .int (eI x1), .int (eI x2), .int (eI x3), .int (eI x4)] L0 M (none) L0 res := CO_of (by decide +kernel) (Nat.le_of_ble_eq_true rfl) (bX5_addChild_b0 a0 x1 x2 x3 x4 oa0 M h)
abbrev xX5_setSpot : XX := (yX5_setSpot, cX5_setSpot, 3, none, 0, 0, 0, 0)
def sX5_setSpot_b0 (a0 : Nat) (x1 : Int) (x2 : Int)   (M : MM) : Option MM := (if wI x1 < 0 then (some (M)) else (if 8 ≤ wI x1 then (some (M)) else (if 0 ≤ wI x1 ∧ wI x1 < 8 then ((some (mU M (gR a0 8) (wI x1).toNat x2)).bind fun M_5 => (some (M_5))) else none)))
def sX5_setSpot (a0 : Nat) (x1 : Int) (x2 : Int) (M : MM) : Option MM := sX5_setSpot_b0 a0 x1 x2 M
set_option maxHeartbeats 4000000 in
set_option maxRecDepth 100000 in
theorem bX5_setSpot_b0 {G : GG} (a0 : Nat) (x1 : Int) (x2 : Int) (oa0 : OB L0 a0 5)  (M : MM) {res : MM}  (h : sX5_setSpot_b0 a0 x1 x2 M = some res) : VV G xX5_setSpot (ZM G xX5_setSpot (none) L0 res) L0 M 0 0 0 [(0, .ref (gA G a0)), (1, .int (eI x1)), (2, .int (eI x2))] [] := by
  unfold sX5_setSpot_b0 at h
  refine r_iload_n (pc := 0) (i := 1) dX5_setSpot_0 rfl 1 rfl ?_
  refine r_if_lt (pc := 1) (tgt := 17) dX5_setSpot_1 (by decide) rfl (fun c_1 => ?_) (fun c_1 => ?_)
  · replace h := (if_pos c_1).symm.trans h
    cases h
    exact r_vret (pc := 17) rfl (Nat.le_refl 0) (Nat.le_refl 0) dX5_setSpot_17
  · replace h := (if_neg c_1).symm.trans h
    refine r_iload_n (pc := 4) (i := 1) dX5_setSpot_4 rfl 1 rfl ?_
    refine r_bipush (pc := 5) (v := 8) dX5_setSpot_5 (by decide +kernel) ?_
    refine r_icmp_ge (pc := 7) (tgt := 17) dX5_setSpot_7 (by decide) rfl wl_8 (fun c_2 => ?_) (fun c_2 => ?_)
    · replace h := (if_pos c_2).symm.trans h
      cases h
      exact r_vret (pc := 17) rfl (Nat.le_refl 0) (Nat.le_refl 0) dX5_setSpot_17
    · replace h := (if_neg c_2).symm.trans h
      refine r_aload_n (pc := 10) (i := 0) dX5_setSpot_10 rfl 0 rfl ?_
      have o_3 := (wt_5_8 oa0).2
      refine r_getR (pc := 11) fg_5_30 rfl oa0 (wt_5_8 oa0).1 dX5_setSpot_11 ?_
      refine r_iload_n (pc := 14) (i := 1) dX5_setSpot_14 rfl 1 rfl ?_
      refine r_iload_n (pc := 15) (i := 2) dX5_setSpot_15 rfl 2 rfl ?_
      obtain ⟨c_4, h⟩ := og h
      obtain ⟨M_5, hM_5, h⟩ := ob h
      refine r_iast (pc := 16) o_3 rfl c_4 rfl hM_5 dX5_setSpot_16 ?_
      cases h
      exact r_vret (pc := 17) rfl (Nat.le_refl 0) (Nat.le_refl 0) dX5_setSpot_17
theorem kX5_setSpot {G : GG} (a0 : Nat) (x1 : Int) (x2 : Int) (M : MM) {res : MM} (oa0 : OB L0 a0 5) (h : sX5_setSpot a0 x1 x2 M = some res) : CO G xX5_setSpot [.ref (gA G a0), .int (eI x1), .int (eI x2)] L0 M (none) L0 res := CO_of (by decide +kernel) (Nat.le_of_ble_eq_true rfl) (bX5_setSpot_b0 a0 x1 x2 oa0 M h)
abbrev xX5_setTie : XX := (yX5_setTie, cX5_setTie, 4, none, 0, 0, 0, 0)
def sX5_setTie_b0 (a0 : Nat) (x1 : Int) (x2 : Int) (x3 : Int)   (M : MM) : Option MM := (if wI x1 < 0 then (some (M)) else (if 8 ≤ wI x1 then (some (M)) else (if wI x2 < 0 then (some (M)) else (if 8 ≤ wI x2 then (some (M)) else (if 0 ≤ wI ((x1 * 8) + x2) ∧ wI ((x1 * 8) + x2) < 64 then ((some (mU M (gR a0 9) (wI ((x1 * 8) + x2)).toNat x3)).bind fun M_7 => (some (M_7))) else none)))))
def sX5_setTie (a0 : Nat) (x1 : Int) (x2 : Int) (x3 : Int) (M : MM) : Option MM := sX5_setTie_b0 a0 x1 x2 x3 M
set_option maxHeartbeats 4000000 in
set_option maxRecDepth 100000 in
theorem bX5_setTie_b0 {G : GG} (a0 : Nat) (x1 : Int) (x2 : Int) (x3 : Int) (oa0 : OB L0 a0 5)  (M : MM) {res : MM}  (h : sX5_setTie_b0 a0 x1 x2 x3 M = some res) : VV G xX5_setTie (ZM G xX5_setTie (none) L0 res) L0 M 0 0 0 [(0, .ref (gA G a0)), (1, .int (eI x1)), (2, .int (eI x2)), (3, .int (eI x3))] [] := by
  unfold sX5_setTie_b0 at h
  refine r_iload_n (pc := 0) (i := 1) dX5_setTie_0 rfl 1 rfl ?_
  refine r_if_lt (pc := 1) (tgt := 32) dX5_setTie_1 (by decide) rfl (fun c_1 => ?_) (fun c_1 => ?_)
  · replace h := (if_pos c_1).symm.trans h
    cases h
    exact r_vret (pc := 32) rfl (Nat.le_refl 0) (Nat.le_refl 0) dX5_setTie_32
  · replace h := (if_neg c_1).symm.trans h
    refine r_iload_n (pc := 4) (i := 1) dX5_setTie_4 rfl 1 rfl ?_
    refine r_bipush (pc := 5) (v := 8) dX5_setTie_5 (by decide +kernel) ?_
    refine r_icmp_ge (pc := 7) (tgt := 32) dX5_setTie_7 (by decide) rfl wl_8 (fun c_2 => ?_) (fun c_2 => ?_)
    · replace h := (if_pos c_2).symm.trans h
      cases h
      exact r_vret (pc := 32) rfl (Nat.le_refl 0) (Nat.le_refl 0) dX5_setTie_32
    · replace h := (if_neg c_2).symm.trans h
      refine r_iload_n (pc := 10) (i := 2) dX5_setTie_10 rfl 2 rfl ?_
      refine r_if_lt (pc := 11) (tgt := 32) dX5_setTie_11 (by decide) rfl (fun c_3 => ?_) (fun c_3 => ?_)
      · replace h := (if_pos c_3).symm.trans h
        cases h
        exact r_vret (pc := 32) rfl (Nat.le_refl 0) (Nat.le_refl 0) dX5_setTie_32
      · replace h := (if_neg c_3).symm.trans h
        refine r_iload_n (pc := 14) (i := 2) dX5_setTie_14 rfl 2 rfl ?_
        refine r_bipush (pc := 15) (v := 8) dX5_setTie_15 (by decide +kernel) ?_
        refine r_icmp_ge (pc := 17) (tgt := 32) dX5_setTie_17 (by decide) rfl wl_8 (fun c_4 => ?_) (fun c_4 => ?_)
        · replace h := (if_pos c_4).symm.trans h
          cases h
          exact r_vret (pc := 32) rfl (Nat.le_refl 0) (Nat.le_refl 0) dX5_setTie_32
        · replace h := (if_neg c_4).symm.trans h
          refine r_aload_n (pc := 20) (i := 0) dX5_setTie_20 rfl 0 rfl ?_
          have o_5 := (wt_5_9 oa0).2
          refine r_getR (pc := 21) fg_5_33 rfl oa0 (wt_5_9 oa0).1 dX5_setTie_21 ?_
          refine r_iload_n (pc := 24) (i := 1) dX5_setTie_24 rfl 1 rfl ?_
          refine r_bipush (pc := 25) (v := 8) dX5_setTie_25 (by decide +kernel) ?_
          refine r_imul (pc := 27) dX5_setTie_27 ?_
          refine r_iload_n (pc := 28) (i := 2) dX5_setTie_28 rfl 2 rfl ?_
          refine r_iadd (pc := 29) dX5_setTie_29 ?_
          refine r_iload_n (pc := 30) (i := 3) dX5_setTie_30 rfl 3 rfl ?_
          obtain ⟨c_6, h⟩ := og h
          obtain ⟨M_7, hM_7, h⟩ := ob h
          refine r_iast (pc := 31) o_5 rfl c_6 rfl hM_7 dX5_setTie_31 ?_
          cases h
          exact r_vret (pc := 32) rfl (Nat.le_refl 0) (Nat.le_refl 0) dX5_setTie_32
theorem kX5_setTie {G : GG} (a0 : Nat) (x1 : Int) (x2 : Int) (x3 : Int) (M : MM) {res : MM} (oa0 : OB L0 a0 5) (h : sX5_setTie a0 x1 x2 x3 M = some res) : CO G xX5_setTie [.ref (gA G a0), .int (eI x1), .int (eI x2), .int (eI x3)] L0 M (none) L0 res := CO_of (by decide +kernel) (Nat.le_of_ble_eq_true rfl) (bX5_setTie_b0 a0 x1 x2 x3 oa0 M h)
abbrev xX5_setTurned : XX := (yX5_setTurned, cX5_setTurned, 3, none, 0, 0, 0, 0)
def sX5_setTurned_b0 (a0 : Nat) (x1 : Int) (x2 : Int)   (M : MM) : Option MM := (if wI x1 < 0 then (some (M)) else (if 8 ≤ wI x1 then (some (M)) else (if 0 ≤ wI x1 ∧ wI x1 < 8 then ((some (mU M (gR a0 10) (wI x1).toNat x2)).bind fun M_5 => (some (M_5))) else none)))
def sX5_setTurned (a0 : Nat) (x1 : Int) (x2 : Int) (M : MM) : Option MM := sX5_setTurned_b0 a0 x1 x2 M
set_option maxHeartbeats 4000000 in
set_option maxRecDepth 100000 in
theorem bX5_setTurned_b0 {G : GG} (a0 : Nat) (x1 : Int) (x2 : Int) (oa0 : OB L0 a0 5)  (M : MM) {res : MM}  (h : sX5_setTurned_b0 a0 x1 x2 M = some res) : VV G xX5_setTurned (ZM G xX5_setTurned (none) L0 res) L0 M 0 0 0 [(0, .ref (gA G a0)), (1, .int (eI x1)), (2, .int (eI x2))] [] := by
  unfold sX5_setTurned_b0 at h
  refine r_iload_n (pc := 0) (i := 1) dX5_setTurned_0 rfl 1 rfl ?_
  refine r_if_lt (pc := 1) (tgt := 17) dX5_setTurned_1 (by decide) rfl (fun c_1 => ?_) (fun c_1 => ?_)
  · replace h := (if_pos c_1).symm.trans h
    cases h
    exact r_vret (pc := 17) rfl (Nat.le_refl 0) (Nat.le_refl 0) dX5_setTurned_17
  · replace h := (if_neg c_1).symm.trans h
    refine r_iload_n (pc := 4) (i := 1) dX5_setTurned_4 rfl 1 rfl ?_
    refine r_bipush (pc := 5) (v := 8) dX5_setTurned_5 (by decide +kernel) ?_
    refine r_icmp_ge (pc := 7) (tgt := 17) dX5_setTurned_7 (by decide) rfl wl_8 (fun c_2 => ?_) (fun c_2 => ?_)
    · replace h := (if_pos c_2).symm.trans h
      cases h
      exact r_vret (pc := 17) rfl (Nat.le_refl 0) (Nat.le_refl 0) dX5_setTurned_17
    · replace h := (if_neg c_2).symm.trans h
      refine r_aload_n (pc := 10) (i := 0) dX5_setTurned_10 rfl 0 rfl ?_
      have o_3 := (wt_5_10 oa0).2
      refine r_getR (pc := 11) fg_5_36 rfl oa0 (wt_5_10 oa0).1 dX5_setTurned_11 ?_
      refine r_iload_n (pc := 14) (i := 1) dX5_setTurned_14 rfl 1 rfl ?_
      refine r_iload_n (pc := 15) (i := 2) dX5_setTurned_15 rfl 2 rfl ?_
      obtain ⟨c_4, h⟩ := og h
      obtain ⟨M_5, hM_5, h⟩ := ob h
      refine r_iast (pc := 16) o_3 rfl c_4 rfl hM_5 dX5_setTurned_16 ?_
      cases h
      exact r_vret (pc := 17) rfl (Nat.le_refl 0) (Nat.le_refl 0) dX5_setTurned_17
theorem kX5_setTurned {G : GG} (a0 : Nat) (x1 : Int) (x2 : Int) (M : MM) {res : MM} (oa0 : OB L0 a0 5) (h : sX5_setTurned a0 x1 x2 M = some res) : CO G xX5_setTurned [.ref (gA G a0), .int (eI x1), .int (eI x2)] L0 M (none) L0 res := CO_of (by decide +kernel) (Nat.le_of_ble_eq_true rfl) (bX5_setTurned_b0 a0 x1 x2 oa0 M h)
abbrev xX5_setRing : XX := (yX5_setRing, cX5_setRing, 3, none, 0, 0, 0, 0)
def sX5_setRing_b0 (a0 : Nat) (x1 : Int) (x2 : Int)   (M : MM) : Option MM := (if wI x1 < 0 then (some (M)) else (if 3 ≤ wI x1 then (some (M)) else (if 0 ≤ wI x1 ∧ wI x1 < 3 then ((some (mU M (gR a0 11) (wI x1).toNat x2)).bind fun M_5 => (some (M_5))) else none)))
def sX5_setRing (a0 : Nat) (x1 : Int) (x2 : Int) (M : MM) : Option MM := sX5_setRing_b0 a0 x1 x2 M
set_option maxHeartbeats 4000000 in
set_option maxRecDepth 100000 in
theorem bX5_setRing_b0 {G : GG} (a0 : Nat) (x1 : Int) (x2 : Int) (oa0 : OB L0 a0 5)  (M : MM) {res : MM}  (h : sX5_setRing_b0 a0 x1 x2 M = some res) : VV G xX5_setRing (ZM G xX5_setRing (none) L0 res) L0 M 0 0 0 [(0, .ref (gA G a0)), (1, .int (eI x1)), (2, .int (eI x2))] [] := by
  unfold sX5_setRing_b0 at h
  refine r_iload_n (pc := 0) (i := 1) dX5_setRing_0 rfl 1 rfl ?_
  refine r_if_lt (pc := 1) (tgt := 16) dX5_setRing_1 (by decide) rfl (fun c_1 => ?_) (fun c_1 => ?_)
  · replace h := (if_pos c_1).symm.trans h
    cases h
    exact r_vret (pc := 16) rfl (Nat.le_refl 0) (Nat.le_refl 0) dX5_setRing_16
  · replace h := (if_neg c_1).symm.trans h
    refine r_iload_n (pc := 4) (i := 1) dX5_setRing_4 rfl 1 rfl ?_
    refine r_iconst (pc := 5) (v := 3) dX5_setRing_5 (by decide +kernel) ?_
    refine r_icmp_ge (pc := 6) (tgt := 16) dX5_setRing_6 (by decide) rfl wl_3 (fun c_2 => ?_) (fun c_2 => ?_)
    · replace h := (if_pos c_2).symm.trans h
      cases h
      exact r_vret (pc := 16) rfl (Nat.le_refl 0) (Nat.le_refl 0) dX5_setRing_16
    · replace h := (if_neg c_2).symm.trans h
      refine r_aload_n (pc := 9) (i := 0) dX5_setRing_9 rfl 0 rfl ?_
      have o_3 := (wt_5_11 oa0).2
      refine r_getR (pc := 10) fg_5_39 rfl oa0 (wt_5_11 oa0).1 dX5_setRing_10 ?_
      refine r_iload_n (pc := 13) (i := 1) dX5_setRing_13 rfl 1 rfl ?_
      refine r_iload_n (pc := 14) (i := 2) dX5_setRing_14 rfl 2 rfl ?_
      obtain ⟨c_4, h⟩ := og h
      obtain ⟨M_5, hM_5, h⟩ := ob h
      refine r_iast (pc := 15) o_3 rfl c_4 rfl hM_5 dX5_setRing_15 ?_
      cases h
      exact r_vret (pc := 16) rfl (Nat.le_refl 0) (Nat.le_refl 0) dX5_setRing_16
theorem kX5_setRing {G : GG} (a0 : Nat) (x1 : Int) (x2 : Int) (M : MM) {res : MM} (oa0 : OB L0 a0 5) (h : sX5_setRing a0 x1 x2 M = some res) : CO G xX5_setRing [.ref (gA G a0), .int (eI x1), .int (eI x2)] L0 M (none) L0 res := CO_of (by decide +kernel) (Nat.le_of_ble_eq_true rfl) (bX5_setRing_b0 a0 x1 x2 oa0 M h)
abbrev xX5_tieOf : XX := (yX5_tieOf, cX5_tieOf, 3, (some .int), 1, 21, 0, 0)
theorem ck_X5_tieOf_64 : CKV xX5_tieOf 64 xX5_has 1 := ⟨⟨tb_i 886 (by decide +kernel) (by decide +kernel), tb_i 141 (by decide +kernel) (by decide +kernel), tb_i 881 (by decide +kernel) (by decide +kernel), ⟨by decide +kernel, by decide +kernel, by decide +kernel⟩, by decide, by decide⟩, tb_i 879 (by decide +kernel) (by decide +kernel), tb_i 880 (by decide +kernel) (by decide +kernel)⟩
def sX5_tieOf_b0 (a0 : Nat) (x1 : Int) (x2 : Int) (M : MM)   : Option Int := (if wI (sX5_has a0 x1 M) = 0 then (some (1)) else (if wI (sX5_has a0 x2 M) = 0 then (some (1)) else (if 0 ≤ wI ((x1 * 8) + x2) ∧ wI ((x1 * 8) + x2) < 64 then (some ((M (gR a0 9) (wI ((x1 * 8) + x2)).toNat))) else none)))
def sX5_tieOf (a0 : Nat) (x1 : Int) (x2 : Int) (M : MM) : Option Int := sX5_tieOf_b0 a0 x1 x2 M
set_option maxHeartbeats 4000000 in
set_option maxRecDepth 100000 in
theorem bX5_tieOf_b0 {G : GG} (a0 : Nat) (x1 : Int) (x2 : Int) (M : MM) (oa0 : OB L0 a0 5)  {res : Int}  (h : sX5_tieOf_b0 a0 x1 x2 M = some res) : VV G xX5_tieOf (ZM G xX5_tieOf (some (.int (eI res))) L0 M) L0 M 0 0 0 [(0, .ref (gA G a0)), (1, .int (eI x1)), (2, .int (eI x2))] [] := by
  unfold sX5_tieOf_b0 at h
  refine r_aload_n (pc := 0) (i := 0) dX5_tieOf_0 rfl 0 rfl ?_
  refine r_iload_n (pc := 1) (i := 1) dX5_tieOf_1 rfl 1 rfl ?_
  refine r_cV (pc := 2) (Y := xX5_has) (As := [.int (eI x1)]) (rest := []) (v := (some (.int (eI (sX5_has a0 x1 M))))) (st1 := [.int (eI (sX5_has a0 x1 M))]) ck_X5_tieOf_64 (kX5_has a0 x1 M oa0) oa0 rfl rfl rfl rfl (Nat.le_of_ble_eq_true rfl) ⟨rfl, rfl⟩ rfl dX5_tieOf_2 ?_
  refine r_if_eq (pc := 5) (tgt := 30) dX5_tieOf_5 (by decide) rfl (fun c_1 => ?_) (fun c_1 => ?_)
  · replace h := (if_pos c_1).symm.trans h
    refine r_iconst (pc := 30) (v := 1) dX5_tieOf_30 (by decide +kernel) ?_
    cases h
    exact r_iret (pc := 31) rfl rfl (Nat.le_refl 0) (Nat.le_refl 0) dX5_tieOf_31
  · replace h := (if_neg c_1).symm.trans h
    refine r_aload_n (pc := 8) (i := 0) dX5_tieOf_8 rfl 0 rfl ?_
    refine r_iload_n (pc := 9) (i := 2) dX5_tieOf_9 rfl 2 rfl ?_
    refine r_cV (pc := 10) (Y := xX5_has) (As := [.int (eI x2)]) (rest := []) (v := (some (.int (eI (sX5_has a0 x2 M))))) (st1 := [.int (eI (sX5_has a0 x2 M))]) ck_X5_tieOf_64 (kX5_has a0 x2 M oa0) oa0 rfl rfl rfl rfl (Nat.le_of_ble_eq_true rfl) ⟨rfl, rfl⟩ rfl dX5_tieOf_10 ?_
    refine r_if_eq (pc := 13) (tgt := 30) dX5_tieOf_13 (by decide) rfl (fun c_2 => ?_) (fun c_2 => ?_)
    · replace h := (if_pos c_2).symm.trans h
      refine r_iconst (pc := 30) (v := 1) dX5_tieOf_30 (by decide +kernel) ?_
      cases h
      exact r_iret (pc := 31) rfl rfl (Nat.le_refl 0) (Nat.le_refl 0) dX5_tieOf_31
    · replace h := (if_neg c_2).symm.trans h
      refine r_aload_n (pc := 16) (i := 0) dX5_tieOf_16 rfl 0 rfl ?_
      have o_3 := (wt_5_9 oa0).2
      refine r_getR (pc := 17) fg_5_33 rfl oa0 (wt_5_9 oa0).1 dX5_tieOf_17 ?_
      refine r_iload_n (pc := 20) (i := 1) dX5_tieOf_20 rfl 1 rfl ?_
      refine r_bipush (pc := 21) (v := 8) dX5_tieOf_21 (by decide +kernel) ?_
      refine r_imul (pc := 23) dX5_tieOf_23 ?_
      refine r_iload_n (pc := 24) (i := 2) dX5_tieOf_24 rfl 2 rfl ?_
      refine r_iadd (pc := 25) dX5_tieOf_25 ?_
      obtain ⟨c_4, h⟩ := og h
      refine r_iald (pc := 26) o_3 rfl c_4 rfl dX5_tieOf_26 ?_
      refine r_goto (pc := 27) (tgt := 31) dX5_tieOf_27 (by decide) ?_
      cases h
      exact r_iret (pc := 31) rfl rfl (Nat.le_refl 0) (Nat.le_refl 0) dX5_tieOf_31
theorem kX5_tieOf {G : GG} (a0 : Nat) (x1 : Int) (x2 : Int) (M : MM) {res : Int} (oa0 : OB L0 a0 5) (h : sX5_tieOf a0 x1 x2 M = some res) : CO G xX5_tieOf [.ref (gA G a0), .int (eI x1), .int (eI x2)] L0 M (some (.int (eI res))) L0 M := CO_of (by decide +kernel) (Nat.le_of_ble_eq_true rfl) (bX5_tieOf_b0 a0 x1 x2 M oa0 h)
abbrev xX11_sideOf : XX := (yX11_sideOf, cX11_sideOf, 3, (some .int), 1, 23, 0, 0)
def sX11_sideOf_b0 (x0 : Int)   : Int := (if wI x0 = 12 then (-1) else (if wI (if 0 ≤ wI ((Int.tdiv (wI x0) 5) - 2) then wI ((Int.tdiv (wI x0) 5) - 2) else -(wI ((Int.tdiv (wI x0) 5) - 2))) < wI (2 * (if 0 ≤ wI ((Int.tmod (wI x0) 5) - 2) then wI ((Int.tmod (wI x0) 5) - 2) else -(wI ((Int.tmod (wI x0) 5) - 2)))) then (if wI (if 0 ≤ wI ((Int.tmod (wI x0) 5) - 2) then wI ((Int.tmod (wI x0) 5) - 2) else -(wI ((Int.tmod (wI x0) 5) - 2))) < wI (2 * (if 0 ≤ wI ((Int.tdiv (wI x0) 5) - 2) then wI ((Int.tdiv (wI x0) 5) - 2) else -(wI ((Int.tdiv (wI x0) 5) - 2)))) then (if wI ((Int.tmod (wI x0) 5) - 2) ≤ 0 then (if wI ((Int.tdiv (wI x0) 5) - 2) ≤ 0 then 7 else 5) else (if 0 ≤ wI ((Int.tdiv (wI x0) 5) - 2) then 3 else 1)) else (if wI ((Int.tmod (wI x0) 5) - 2) ≤ 0 then 6 else 2)) else (if 0 ≤ wI ((Int.tdiv (wI x0) 5) - 2) then 4 else 0)))
def sX11_sideOf (x0 : Int) : Int := sX11_sideOf_b0 x0
set_option maxHeartbeats 4000000 in
set_option maxRecDepth 100000 in
theorem bX11_sideOf_b0 {G : GG} (x0 : Int) (M : MM)   {res : Int}  (h : sX11_sideOf_b0 x0 = res) : VV G xX11_sideOf (ZM G xX11_sideOf (some (.int (eI res))) L0 M) L0 M 0 0 0 [(0, .int (eI x0))] [] := by
  unfold sX11_sideOf_b0 at h
  refine r_iload_n (pc := 0) (i := 0) dX11_sideOf_0 rfl 0 rfl ?_
  refine r_bipush (pc := 1) (v := 12) dX11_sideOf_1 (by decide +kernel) ?_
  refine r_icmp_ne (pc := 3) (tgt := 8) dX11_sideOf_3 (by decide) rfl wl_12 (fun c_1 => ?_) (fun c_1 => ?_)
  · replace h := (if_neg c_1).symm.trans h
    refine r_iload_n (pc := 8) (i := 0) dX11_sideOf_8 rfl 0 rfl ?_
    refine r_iconst (pc := 9) (v := 5) dX11_sideOf_9 (by decide +kernel) ?_
    refine r_idiv (pc := 10) dX11_sideOf_10 rfl wl_5 (by decide) ?_
    refine r_iconst (pc := 11) (v := 2) dX11_sideOf_11 (by decide +kernel) ?_
    refine r_isub (pc := 12) dX11_sideOf_12 ?_
    refine r_istore_n (pc := 13) (i := 1) (lv' := [(1, .int (eI ((Int.tdiv (wI x0) 5) - 2))), (0, .int (eI x0))]) dX11_sideOf_13 rfl (Nat.le_of_ble_eq_true rfl) rfl ?_
    refine r_iload_n (pc := 14) (i := 0) dX11_sideOf_14 rfl 1 rfl ?_
    refine r_iconst (pc := 15) (v := 5) dX11_sideOf_15 (by decide +kernel) ?_
    refine r_irem (pc := 16) dX11_sideOf_16 rfl wl_5 (by decide) ?_
    refine r_iconst (pc := 17) (v := 2) dX11_sideOf_17 (by decide +kernel) ?_
    refine r_isub (pc := 18) dX11_sideOf_18 ?_
    refine r_istore_n (pc := 19) (i := 2) (lv' := [(2, .int (eI ((Int.tmod (wI x0) 5) - 2))), (1, .int (eI ((Int.tdiv (wI x0) 5) - 2))), (0, .int (eI x0))]) dX11_sideOf_19 rfl (Nat.le_of_ble_eq_true rfl) rfl ?_
    refine r_iload_n (pc := 20) (i := 1) dX11_sideOf_20 rfl 1 rfl ?_
    refine r_mabs (pc := 21) ml_11_376 ⟨Nat.le_of_ble_eq_true rfl, Nat.le_of_ble_eq_true rfl, Nat.le_of_ble_eq_true rfl, Nat.le_of_ble_eq_true rfl⟩ rfl dX11_sideOf_21 ?_
    refine r_iconst (pc := 24) (v := 2) dX11_sideOf_24 (by decide +kernel) ?_
    refine r_iload_n (pc := 25) (i := 2) dX11_sideOf_25 rfl 0 rfl ?_
    refine r_mabs (pc := 26) ml_11_376 ⟨Nat.le_of_ble_eq_true rfl, Nat.le_of_ble_eq_true rfl, Nat.le_of_ble_eq_true rfl, Nat.le_of_ble_eq_true rfl⟩ rfl dX11_sideOf_26 ?_
    refine r_imul (pc := 29) dX11_sideOf_29 ?_
    refine r_icmp_lt (pc := 30) (tgt := 43) dX11_sideOf_30 (by decide) rfl rfl (fun c_2 => ?_) (fun c_2 => ?_)
    · replace h := (if_pos c_2).symm.trans h
      refine r_iload_n (pc := 43) (i := 2) dX11_sideOf_43 rfl 0 rfl ?_
      refine r_mabs (pc := 44) ml_11_376 ⟨Nat.le_of_ble_eq_true rfl, Nat.le_of_ble_eq_true rfl, Nat.le_of_ble_eq_true rfl, Nat.le_of_ble_eq_true rfl⟩ rfl dX11_sideOf_44 ?_
      refine r_iconst (pc := 47) (v := 2) dX11_sideOf_47 (by decide +kernel) ?_
      refine r_iload_n (pc := 48) (i := 1) dX11_sideOf_48 rfl 1 rfl ?_
      refine r_mabs (pc := 49) ml_11_376 ⟨Nat.le_of_ble_eq_true rfl, Nat.le_of_ble_eq_true rfl, Nat.le_of_ble_eq_true rfl, Nat.le_of_ble_eq_true rfl⟩ rfl dX11_sideOf_49 ?_
      refine r_imul (pc := 52) dX11_sideOf_52 ?_
      refine r_icmp_lt (pc := 53) (tgt := 67) dX11_sideOf_53 (by decide) rfl rfl (fun c_3 => ?_) (fun c_3 => ?_)
      · replace h := (if_pos c_3).symm.trans h
        refine r_iload_n (pc := 67) (i := 2) dX11_sideOf_67 rfl 0 rfl ?_
        refine r_if_le (pc := 68) (tgt := 81) dX11_sideOf_68 (by decide) rfl (fun c_4 => ?_) (fun c_4 => ?_)
        · replace h := (if_pos c_4).symm.trans h
          refine r_iload_n (pc := 81) (i := 1) dX11_sideOf_81 rfl 1 rfl ?_
          refine r_if_le (pc := 82) (tgt := 89) dX11_sideOf_82 (by decide) rfl (fun c_5 => ?_) (fun c_5 => ?_)
          · replace h := (if_pos c_5).symm.trans h
            refine r_bipush (pc := 89) (v := 7) dX11_sideOf_89 (by decide +kernel) ?_
            cases h
            exact r_iret (pc := 91) rfl rfl (Nat.le_refl 0) (Nat.le_refl 0) dX11_sideOf_91
          · replace h := (if_neg c_5).symm.trans h
            refine r_iconst (pc := 85) (v := 5) dX11_sideOf_85 (by decide +kernel) ?_
            refine r_goto (pc := 86) (tgt := 91) dX11_sideOf_86 (by decide) ?_
            cases h
            exact r_iret (pc := 91) rfl rfl (Nat.le_refl 0) (Nat.le_refl 0) dX11_sideOf_91
        · replace h := (if_neg c_4).symm.trans h
          refine r_iload_n (pc := 71) (i := 1) dX11_sideOf_71 rfl 1 rfl ?_
          refine r_if_ge (pc := 72) (tgt := 79) dX11_sideOf_72 (by decide) rfl (fun c_6 => ?_) (fun c_6 => ?_)
          · replace h := (if_pos c_6).symm.trans h
            refine r_iconst (pc := 79) (v := 3) dX11_sideOf_79 (by decide +kernel) ?_
            cases h
            exact r_iret (pc := 80) rfl rfl (Nat.le_refl 0) (Nat.le_refl 0) dX11_sideOf_80
          · replace h := (if_neg c_6).symm.trans h
            refine r_iconst (pc := 75) (v := 1) dX11_sideOf_75 (by decide +kernel) ?_
            refine r_goto (pc := 76) (tgt := 80) dX11_sideOf_76 (by decide) ?_
            cases h
            exact r_iret (pc := 80) rfl rfl (Nat.le_refl 0) (Nat.le_refl 0) dX11_sideOf_80
      · replace h := (if_neg c_3).symm.trans h
        refine r_iload_n (pc := 56) (i := 2) dX11_sideOf_56 rfl 0 rfl ?_
        refine r_if_le (pc := 57) (tgt := 64) dX11_sideOf_57 (by decide) rfl (fun c_7 => ?_) (fun c_7 => ?_)
        · replace h := (if_pos c_7).symm.trans h
          refine r_bipush (pc := 64) (v := 6) dX11_sideOf_64 (by decide +kernel) ?_
          cases h
          exact r_iret (pc := 66) rfl rfl (Nat.le_refl 0) (Nat.le_refl 0) dX11_sideOf_66
        · replace h := (if_neg c_7).symm.trans h
          refine r_iconst (pc := 60) (v := 2) dX11_sideOf_60 (by decide +kernel) ?_
          refine r_goto (pc := 61) (tgt := 66) dX11_sideOf_61 (by decide) ?_
          cases h
          exact r_iret (pc := 66) rfl rfl (Nat.le_refl 0) (Nat.le_refl 0) dX11_sideOf_66
    · replace h := (if_neg c_2).symm.trans h
      refine r_iload_n (pc := 33) (i := 1) dX11_sideOf_33 rfl 1 rfl ?_
      refine r_if_ge (pc := 34) (tgt := 41) dX11_sideOf_34 (by decide) rfl (fun c_8 => ?_) (fun c_8 => ?_)
      · replace h := (if_pos c_8).symm.trans h
        refine r_iconst (pc := 41) (v := 4) dX11_sideOf_41 (by decide +kernel) ?_
        cases h
        exact r_iret (pc := 42) rfl rfl (Nat.le_refl 0) (Nat.le_refl 0) dX11_sideOf_42
      · replace h := (if_neg c_8).symm.trans h
        refine r_iconst (pc := 37) (v := 0) dX11_sideOf_37 (by decide +kernel) ?_
        refine r_goto (pc := 38) (tgt := 42) dX11_sideOf_38 (by decide) ?_
        cases h
        exact r_iret (pc := 42) rfl rfl (Nat.le_refl 0) (Nat.le_refl 0) dX11_sideOf_42
  · replace h := (if_pos c_1).symm.trans h
    refine r_iconst (pc := 6) (v := (-1)) dX11_sideOf_6 (by decide +kernel) ?_
    cases h
    exact r_iret (pc := 7) rfl rfl (Nat.le_refl 0) (Nat.le_refl 0) dX11_sideOf_7
theorem kX11_sideOf {G : GG} (x0 : Int) (M : MM)  : CO G xX11_sideOf [.int (eI x0)] L0 M (some (.int (eI (sX11_sideOf x0)))) L0 M := CO_of (by decide +kernel) (Nat.le_of_ble_eq_true rfl) (bX11_sideOf_b0 x0 M rfl)
abbrev xX5_dangerOf : XX := (yX5_dangerOf, cX5_dangerOf, 4, (some .int), 3, 66, 0, 0)
theorem ck_X5_dangerOf_64 : CKV xX5_dangerOf 64 xX5_has 1 := ⟨⟨tb_i 886 (by decide +kernel) (by decide +kernel), tb_i 141 (by decide +kernel) (by decide +kernel), tb_i 881 (by decide +kernel) (by decide +kernel), ⟨by decide +kernel, by decide +kernel, by decide +kernel⟩, by decide, by decide⟩, tb_i 879 (by decide +kernel) (by decide +kernel), tb_i 880 (by decide +kernel) (by decide +kernel)⟩
theorem ck_X5_dangerOf_72 : CKN xX5_dangerOf 72 xX11_ringOf 1 "PaperDonkey" := ⟨tn_i 1211 (by decide +kernel) rfl, tb_i 139 (by decide +kernel) (by decide +kernel), tb_i 1177 (by decide +kernel) (by decide +kernel), ⟨by decide +kernel, by decide +kernel, by decide +kernel⟩, by decide, by decide, tb_i 1176 (by decide +kernel) (by decide +kernel)⟩
theorem ck_X5_dangerOf_76 : CKN xX5_dangerOf 76 xX11_sideOf 1 "PaperDonkey" := ⟨tn_i 1233 (by decide +kernel) rfl, tb_i 139 (by decide +kernel) (by decide +kernel), tb_i 1185 (by decide +kernel) (by decide +kernel), ⟨by decide +kernel, by decide +kernel, by decide +kernel⟩, by decide, by decide, tb_i 1184 (by decide +kernel) (by decide +kernel)⟩
def sX5_dangerOf_b21 (a0 : Nat) (x1 : Int) (x2 : Int) (M : MM)  (x90 : Int) : Option Int := (if wI x90 < 1 then (some (0)) else (if wI x90 ≤ wI x2 then (if 0 ≤ wI x1 ∧ wI x1 < 8 then (if 0 ≤ wI ((8 - (sX11_sideOf (M (gR a0 8) (wI x1).toNat))) % 8) ∧ wI ((8 - (sX11_sideOf (M (gR a0 8) (wI x1).toNat))) % 8) < 8 then (some ((M (gR a0 10) (wI ((8 - (sX11_sideOf (M (gR a0 8) (wI x1).toNat))) % 8)).toNat))) else none) else none) else (some (0))))
def sX5_dangerOf_b0 (a0 : Nat) (x1 : Int) (x2 : Int) (M : MM)   : Option Int := (if wI (sX5_has a0 x1 M) = 0 then (sX5_dangerOf_b21 a0 x1 x2 M 0) else (if 0 ≤ wI x1 ∧ wI x1 < 8 then ((sX11_ringOf (M (gR a0 8) (wI x1).toNat)).bind fun q_4 => (sX5_dangerOf_b21 a0 x1 x2 M q_4)) else none))
def sX5_dangerOf (a0 : Nat) (x1 : Int) (x2 : Int) (M : MM) : Option Int := sX5_dangerOf_b0 a0 x1 x2 M
set_option maxHeartbeats 4000000 in
set_option maxRecDepth 100000 in
theorem bX5_dangerOf_b21 {G : GG} (a0 : Nat) (x1 : Int) (x2 : Int) (M : MM) (oa0 : OB L0 a0 5) (x90 : Int) {res : Int}  (h : sX5_dangerOf_b21 a0 x1 x2 M x90 = some res) : VV G xX5_dangerOf (ZM G xX5_dangerOf (some (.int (eI res))) L0 M) L0 M 0 0 21 [(0, .ref (gA G a0)), (1, .int (eI x1)), (2, .int (eI x2))] [.int (eI x90)] := by
  unfold sX5_dangerOf_b21 at h
  refine r_istore_n (pc := 21) (i := 3) (lv' := [(3, .int (eI x90)), (0, .ref (gA G a0)), (1, .int (eI x1)), (2, .int (eI x2))]) dX5_dangerOf_21 rfl (Nat.le_of_ble_eq_true rfl) rfl ?_
  refine r_iload_n (pc := 22) (i := 3) dX5_dangerOf_22 rfl 0 rfl ?_
  refine r_iconst (pc := 23) (v := 1) dX5_dangerOf_23 (by decide +kernel) ?_
  refine r_icmp_lt (pc := 24) (tgt := 32) dX5_dangerOf_24 (by decide) rfl wl_1 (fun c_1 => ?_) (fun c_1 => ?_)
  · replace h := (if_pos c_1).symm.trans h
    refine r_iconst (pc := 32) (v := 0) dX5_dangerOf_32 (by decide +kernel) ?_
    cases h
    exact r_iret (pc := 33) rfl rfl (Nat.le_refl 0) (Nat.le_refl 0) dX5_dangerOf_33
  · replace h := (if_neg c_1).symm.trans h
    refine r_iload_n (pc := 27) (i := 3) dX5_dangerOf_27 rfl 0 rfl ?_
    refine r_iload_n (pc := 28) (i := 2) dX5_dangerOf_28 rfl 3 rfl ?_
    refine r_icmp_le (pc := 29) (tgt := 34) dX5_dangerOf_29 (by decide) rfl rfl (fun c_2 => ?_) (fun c_2 => ?_)
    · replace h := (if_pos c_2).symm.trans h
      refine r_aload_n (pc := 34) (i := 0) dX5_dangerOf_34 rfl 1 rfl ?_
      have o_3 := (wt_5_10 oa0).2
      refine r_getR (pc := 35) fg_5_36 rfl oa0 (wt_5_10 oa0).1 dX5_dangerOf_35 ?_
      refine r_bipush (pc := 38) (v := 8) dX5_dangerOf_38 (by decide +kernel) ?_
      refine r_aload_n (pc := 40) (i := 0) dX5_dangerOf_40 rfl 1 rfl ?_
      have o_4 := (wt_5_8 oa0).2
      refine r_getR (pc := 41) fg_5_30 rfl oa0 (wt_5_8 oa0).1 dX5_dangerOf_41 ?_
      refine r_iload_n (pc := 44) (i := 1) dX5_dangerOf_44 rfl 2 rfl ?_
      obtain ⟨c_5, h⟩ := og h
      refine r_iald (pc := 45) o_4 rfl c_5 rfl dX5_dangerOf_45 ?_
      refine r_cN (pc := 46) (Y := xX11_sideOf) (As := [.int (eI (M (gR a0 8) (wI x1).toNat))]) (rest := [.int (eI 8), .ref (gA G (gR a0 10))]) (v := (some (.int (eI (sX11_sideOf (M (gR a0 8) (wI x1).toNat)))))) (st1 := [.int (eI (sX11_sideOf (M (gR a0 8) (wI x1).toNat))), .int (eI 8), .ref (gA G (gR a0 10))]) ck_X5_dangerOf_76 (kX11_sideOf (M (gR a0 8) (wI x1).toNat) M ) rfl rfl (Nat.le_of_ble_eq_true rfl) ⟨rfl, rfl⟩ rfl dX5_dangerOf_46 ?_
      refine r_isub (pc := 49) dX5_dangerOf_49 ?_
      refine r_bipush (pc := 50) (v := 7) dX5_dangerOf_50 (by decide +kernel) ?_
      refine r_iand (pc := 52) 3 (by decide) wl_7 rfl dX5_dangerOf_52 ?_
      obtain ⟨c_6, h⟩ := og h
      refine r_iald (pc := 53) o_3 rfl c_6 rfl dX5_dangerOf_53 ?_
      cases h
      exact r_iret (pc := 54) rfl rfl (Nat.le_refl 0) (Nat.le_refl 0) dX5_dangerOf_54
    · replace h := (if_neg c_2).symm.trans h
      refine r_iconst (pc := 32) (v := 0) dX5_dangerOf_32 (by decide +kernel) ?_
      cases h
      exact r_iret (pc := 33) rfl rfl (Nat.le_refl 0) (Nat.le_refl 0) dX5_dangerOf_33
set_option maxHeartbeats 4000000 in
set_option maxRecDepth 100000 in
theorem bX5_dangerOf_b0 {G : GG} (a0 : Nat) (x1 : Int) (x2 : Int) (M : MM) (oa0 : OB L0 a0 5)  {res : Int}  (h : sX5_dangerOf_b0 a0 x1 x2 M = some res) : VV G xX5_dangerOf (ZM G xX5_dangerOf (some (.int (eI res))) L0 M) L0 M 0 0 0 [(0, .ref (gA G a0)), (1, .int (eI x1)), (2, .int (eI x2))] [] := by
  unfold sX5_dangerOf_b0 at h
  refine r_aload_n (pc := 0) (i := 0) dX5_dangerOf_0 rfl 0 rfl ?_
  refine r_iload_n (pc := 1) (i := 1) dX5_dangerOf_1 rfl 1 rfl ?_
  refine r_cV (pc := 2) (Y := xX5_has) (As := [.int (eI x1)]) (rest := []) (v := (some (.int (eI (sX5_has a0 x1 M))))) (st1 := [.int (eI (sX5_has a0 x1 M))]) ck_X5_dangerOf_64 (kX5_has a0 x1 M oa0) oa0 rfl rfl rfl rfl (Nat.le_of_ble_eq_true rfl) ⟨rfl, rfl⟩ rfl dX5_dangerOf_2 ?_
  refine r_if_eq (pc := 5) (tgt := 20) dX5_dangerOf_5 (by decide) rfl (fun c_1 => ?_) (fun c_1 => ?_)
  · replace h := (if_pos c_1).symm.trans h
    refine r_iconst (pc := 20) (v := 0) dX5_dangerOf_20 (by decide +kernel) ?_
    refine r_sub (lv' := [(0, .ref (gA G a0)), (1, .int (eI x1)), (2, .int (eI x2))]) [0, 1, 2] rfl ?_
    exact bX5_dangerOf_b21 a0 x1 x2 M oa0 _ h
  · replace h := (if_neg c_1).symm.trans h
    refine r_aload_n (pc := 8) (i := 0) dX5_dangerOf_8 rfl 0 rfl ?_
    have o_2 := (wt_5_8 oa0).2
    refine r_getR (pc := 9) fg_5_30 rfl oa0 (wt_5_8 oa0).1 dX5_dangerOf_9 ?_
    refine r_iload_n (pc := 12) (i := 1) dX5_dangerOf_12 rfl 1 rfl ?_
    obtain ⟨c_3, h⟩ := og h
    refine r_iald (pc := 13) o_2 rfl c_3 rfl dX5_dangerOf_13 ?_
    obtain ⟨q_4, hq_4, h⟩ := ob h
    refine r_cN (pc := 14) (Y := xX11_ringOf) (As := [.int (eI (M (gR a0 8) (wI x1).toNat))]) (rest := []) (v := (some (.int (eI q_4)))) (st1 := [.int (eI q_4)]) ck_X5_dangerOf_72 (kX11_ringOf (M (gR a0 8) (wI x1).toNat) M  hq_4) rfl rfl (Nat.le_of_ble_eq_true rfl) ⟨rfl, rfl⟩ rfl dX5_dangerOf_14 ?_
    refine r_goto (pc := 17) (tgt := 21) dX5_dangerOf_17 (by decide) ?_
    refine r_sub (lv' := [(0, .ref (gA G a0)), (1, .int (eI x1)), (2, .int (eI x2))]) [0, 1, 2] rfl ?_
    exact bX5_dangerOf_b21 a0 x1 x2 M oa0 _ h
theorem kX5_dangerOf {G : GG} (a0 : Nat) (x1 : Int) (x2 : Int) (M : MM) {res : Int} (oa0 : OB L0 a0 5) (h : sX5_dangerOf a0 x1 x2 M = some res) : CO G xX5_dangerOf [.ref (gA G a0), .int (eI x1), .int (eI x2)] L0 M (some (.int (eI res))) L0 M := CO_of (by decide +kernel) (Nat.le_of_ble_eq_true rfl) (bX5_dangerOf_b0 a0 x1 x2 M oa0 h)
abbrev xX5_isSafe : XX := (yX5_isSafe, cX5_isSafe, 5, (some .boolean), 4, 89, 0, 0)
theorem ck_X5_isSafe_68 : CKV xX5_isSafe 68 xX5_turnedOfAll 0 := ⟨⟨tb_i 827 (by decide +kernel) (by decide +kernel), tb_i 141 (by decide +kernel) (by decide +kernel), tb_i 830 (by decide +kernel) (by decide +kernel), ⟨by decide +kernel, by decide +kernel, by decide +kernel⟩, by decide, by decide⟩, tb_i 828 (by decide +kernel) (by decide +kernel), tb_i 829 (by decide +kernel) (by decide +kernel)⟩
theorem ck_X5_isSafe_79 : CKV xX5_isSafe 79 xX5_dangerOf 2 := ⟨⟨tb_i 1243 (by decide +kernel) (by decide +kernel), tb_i 141 (by decide +kernel) (by decide +kernel), tb_i 1232 (by decide +kernel) (by decide +kernel), ⟨by decide +kernel, by decide +kernel, by decide +kernel⟩, by decide, by decide⟩, tb_i 1230 (by decide +kernel) (by decide +kernel), tb_i 1231 (by decide +kernel) (by decide +kernel)⟩
def sX5_isSafe_b8 (a0 : Nat) (x1 : Int) (x2 : Int) (M : MM)  : Nat → Int → Int → Option Int
  | 0, _, _ => none
  | n + 1, x3, x4 => (if wI (M a0 3) ≤ wI x4 then (some (1)) else ((sX5_dangerOf a0 x4 x1 M).bind fun q_2 => (if wI (100 * q_2) ≤ wI (x2 * x3) then ((some (x4 + 1)).bind fun v_4 => (sX5_isSafe_b8 a0 x1 x2 M n x3 v_4)) else (some (0)))))
def sX5_isSafe_b0 (a0 : Nat) (x1 : Int) (x2 : Int) (M : MM)   : Option Int := ((sX5_turnedOfAll a0 M).bind fun q_1 => (sX5_isSafe_b8 a0 x1 x2 M FU q_1 0))
def sX5_isSafe (a0 : Nat) (x1 : Int) (x2 : Int) (M : MM) : Option Int := sX5_isSafe_b0 a0 x1 x2 M
set_option maxHeartbeats 4000000 in
set_option maxRecDepth 100000 in
theorem bX5_isSafe_b8 {G : GG} (a0 : Nat) (x1 : Int) (x2 : Int) (M : MM) (oa0 : OB L0 a0 5) {res : Int} : ∀ (n : Nat) (x3 : Int) (x4 : Int)  (h : sX5_isSafe_b8 a0 x1 x2 M n x3 x4 = some res), VV G xX5_isSafe (ZM G xX5_isSafe (some (.int (eI res))) L0 M) L0 M 0 0 8 [(0, .ref (gA G a0)), (1, .int (eI x1)), (2, .int (eI x2)), (3, .int (eI x3)), (4, .int (eI x4))] [] := by
  intro n
  induction n with
  | zero =>
    intro x3 x4 h
    rw [sX5_isSafe_b8] at h
    cases h
  | succ n ih =>
    intro x3 x4 h
    rw [sX5_isSafe_b8] at h
    refine r_iload (pc := 8) dX5_isSafe_8 4 rfl ?_
    refine r_aload_n (pc := 10) (i := 0) dX5_isSafe_10 rfl 0 rfl ?_
    refine r_getI (pc := 11) fg_5_46 rfl oa0 dX5_isSafe_11 ?_
    refine r_icmp_ge (pc := 14) (tgt := 41) dX5_isSafe_14 (by decide) rfl rfl (fun c_1 => ?_) (fun c_1 => ?_)
    · replace h := (if_pos c_1).symm.trans h
      refine r_iconst (pc := 41) (v := 1) dX5_isSafe_41 (by decide +kernel) ?_
      cases h
      exact r_iret (pc := 42) rfl (zn_ok (Or.inr rfl)).1 (Nat.le_refl 0) (Nat.le_refl 0) dX5_isSafe_42
    · replace h := (if_neg c_1).symm.trans h
      refine r_bipush (pc := 17) (v := 100) dX5_isSafe_17 (by decide +kernel) ?_
      refine r_aload_n (pc := 19) (i := 0) dX5_isSafe_19 rfl 0 rfl ?_
      refine r_iload (pc := 20) dX5_isSafe_20 4 rfl ?_
      refine r_iload_n (pc := 22) (i := 1) dX5_isSafe_22 rfl 1 rfl ?_
      obtain ⟨q_2, hq_2, h⟩ := ob h
      refine r_cV (pc := 23) (Y := xX5_dangerOf) (As := [.int (eI x4), .int (eI x1)]) (rest := [.int (eI 100)]) (v := (some (.int (eI q_2)))) (st1 := [.int (eI q_2), .int (eI 100)]) ck_X5_isSafe_79 (kX5_dangerOf a0 x4 x1 M oa0 hq_2) oa0 rfl rfl rfl rfl (Nat.le_of_ble_eq_true rfl) ⟨rfl, rfl⟩ rfl dX5_isSafe_23 ?_
      refine r_imul (pc := 26) dX5_isSafe_26 ?_
      refine r_iload_n (pc := 27) (i := 2) dX5_isSafe_27 rfl 2 rfl ?_
      refine r_iload_n (pc := 28) (i := 3) dX5_isSafe_28 rfl 3 rfl ?_
      refine r_imul (pc := 29) dX5_isSafe_29 ?_
      refine r_icmp_le (pc := 30) (tgt := 35) dX5_isSafe_30 (by decide) rfl rfl (fun c_3 => ?_) (fun c_3 => ?_)
      · replace h := (if_pos c_3).symm.trans h
        obtain ⟨v_4, hv_4, h⟩ := ob h
        refine r_iinc (pc := 35) (y := v_4) (lv' := [(4, .int (eI v_4)), (0, .ref (gA G a0)), (1, .int (eI x1)), (2, .int (eI x2)), (3, .int (eI x3))]) dX5_isSafe_35 4 rfl (Option.some.inj hv_4) (Nat.le_of_ble_eq_true rfl) rfl ?_
        refine r_goto (pc := 38) (tgt := 8) dX5_isSafe_38 (by decide) ?_
        refine r_sub (lv' := [(0, .ref (gA G a0)), (1, .int (eI x1)), (2, .int (eI x2)), (3, .int (eI x3)), (4, .int (eI v_4))]) [1, 2, 3, 4, 0] rfl ?_
        exact ih _ _ h
      · replace h := (if_neg c_3).symm.trans h
        refine r_iconst (pc := 33) (v := 0) dX5_isSafe_33 (by decide +kernel) ?_
        cases h
        exact r_iret (pc := 34) rfl (zn_ok (Or.inl rfl)).1 (Nat.le_refl 0) (Nat.le_refl 0) dX5_isSafe_34
set_option maxHeartbeats 4000000 in
set_option maxRecDepth 100000 in
theorem bX5_isSafe_b0 {G : GG} (a0 : Nat) (x1 : Int) (x2 : Int) (M : MM) (oa0 : OB L0 a0 5)  {res : Int}  (h : sX5_isSafe_b0 a0 x1 x2 M = some res) : VV G xX5_isSafe (ZM G xX5_isSafe (some (.int (eI res))) L0 M) L0 M 0 0 0 [(0, .ref (gA G a0)), (1, .int (eI x1)), (2, .int (eI x2))] [] := by
  unfold sX5_isSafe_b0 at h
  refine r_aload_n (pc := 0) (i := 0) dX5_isSafe_0 rfl 0 rfl ?_
  obtain ⟨q_1, hq_1, h⟩ := ob h
  refine r_cV (pc := 1) (Y := xX5_turnedOfAll) (As := []) (rest := []) (v := (some (.int (eI q_1)))) (st1 := [.int (eI q_1)]) ck_X5_isSafe_68 (kX5_turnedOfAll a0 M oa0 hq_1) oa0 rfl rfl rfl rfl (Nat.le_of_ble_eq_true rfl) ⟨rfl, rfl⟩ rfl dX5_isSafe_1 ?_
  refine r_istore_n (pc := 4) (i := 3) (lv' := [(3, .int (eI q_1)), (0, .ref (gA G a0)), (1, .int (eI x1)), (2, .int (eI x2))]) dX5_isSafe_4 rfl (Nat.le_of_ble_eq_true rfl) rfl ?_
  refine r_iconst (pc := 5) (v := 0) dX5_isSafe_5 (by decide +kernel) ?_
  refine r_istore (pc := 6) (lv' := [(4, .int (eI 0)), (3, .int (eI q_1)), (0, .ref (gA G a0)), (1, .int (eI x1)), (2, .int (eI x2))]) dX5_isSafe_6 (Nat.le_of_ble_eq_true rfl) rfl ?_
  refine r_sub (lv' := [(0, .ref (gA G a0)), (1, .int (eI x1)), (2, .int (eI x2)), (3, .int (eI q_1)), (4, .int (eI 0))]) [2, 3, 4, 1, 0] rfl ?_
  exact bX5_isSafe_b8 a0 x1 x2 M oa0 _ _ _ h
theorem kX5_isSafe {G : GG} (a0 : Nat) (x1 : Int) (x2 : Int) (M : MM) {res : Int} (oa0 : OB L0 a0 5) (h : sX5_isSafe a0 x1 x2 M = some res) : CO G xX5_isSafe [.ref (gA G a0), .int (eI x1), .int (eI x2)] L0 M (some (.int (eI res))) L0 M := CO_of (by decide +kernel) (Nat.le_of_ble_eq_true rfl) (bX5_isSafe_b0 a0 x1 x2 M oa0 h)
abbrev xX5_answer : XX := (yX5_answer, cX5_answer, 2, (some .int), 0, 0, 0, 0)
def sX5_answer_b98 (a0 : Nat) (x1 : Int) (M : MM)   : Option Int := (if wI x1 = 0 then (some ((M a0 0))) else (if wI x1 = 1 then (some ((M a0 3))) else (if wI x1 = 2 then (some ((M a0 12))) else (if wI x1 = 3 then (some ((M a0 13))) else (if wI x1 = 4 then (some ((M a0 14))) else (if wI x1 = 5 then (some ((M a0 15))) else (if wI x1 = 6 then (some ((M a0 16))) else (some ((-1))))))))))
def sX5_answer_b71 (a0 : Nat) (x1 : Int) (M : MM)   : Option Int := (if wI x1 < 40 then (sX5_answer_b98 a0 x1 M) else (if wI (40 + (M a0 0)) ≤ wI x1 then (sX5_answer_b98 a0 x1 M) else (if 0 ≤ wI (x1 - 40) ∧ wI (x1 - 40) < 5 then (some ((M (gR a0 2) (wI (x1 - 40)).toNat))) else none)))
def sX5_answer_b44 (a0 : Nat) (x1 : Int) (M : MM)   : Option Int := (if wI x1 < 30 then (sX5_answer_b71 a0 x1 M) else (if wI (30 + (M a0 0)) ≤ wI x1 then (sX5_answer_b71 a0 x1 M) else (if 0 ≤ wI (x1 - 30) ∧ wI (x1 - 30) < 5 then (some ((M (gR a0 1) (wI (x1 - 30)).toNat))) else none)))
def sX5_answer_b22 (a0 : Nat) (x1 : Int) (M : MM)   : Option Int := (if wI x1 < 20 then (sX5_answer_b44 a0 x1 M) else (if 23 ≤ wI x1 then (sX5_answer_b44 a0 x1 M) else (if 0 ≤ wI (x1 - 20) ∧ wI (x1 - 20) < 3 then (some ((M (gR a0 11) (wI (x1 - 20)).toNat))) else none)))
def sX5_answer_b0 (a0 : Nat) (x1 : Int) (M : MM)   : Option Int := (if wI x1 < 10 then (sX5_answer_b22 a0 x1 M) else (if 18 ≤ wI x1 then (sX5_answer_b22 a0 x1 M) else (if 0 ≤ wI (x1 - 10) ∧ wI (x1 - 10) < 8 then (some ((M (gR a0 10) (wI (x1 - 10)).toNat))) else none)))
def sX5_answer (a0 : Nat) (x1 : Int) (M : MM) : Option Int := sX5_answer_b0 a0 x1 M
set_option maxHeartbeats 4000000 in
set_option maxRecDepth 100000 in
theorem bX5_answer_b98 {G : GG} (a0 : Nat) (x1 : Int) (M : MM) (oa0 : OB L0 a0 5)  {res : Int}  (h : sX5_answer_b98 a0 x1 M = some res) : VV G xX5_answer (ZM G xX5_answer (some (.int (eI res))) L0 M) L0 M 0 0 98 [(0, .ref (gA G a0)), (1, .int (eI x1))] [] := by
  unfold sX5_answer_b98 at h
  refine r_iload_n (pc := 98) (i := 1) dX5_answer_98 rfl 1 rfl ?_
  by_cases c_1 : wI x1 = 0
  · replace h := (if_pos c_1).symm.trans h
    refine r_tsw (pc := 99) (tgt := 140) (k' := 0) (rfl.trans c_1) dX5_answer_99 (by decide) rfl (by decide) ?_
    refine r_aload_n (pc := 140) (i := 0) dX5_answer_140 rfl 0 rfl ?_
    refine r_getI (pc := 141) fg_5_42 rfl oa0 dX5_answer_141 ?_
    cases h
    exact r_iret (pc := 144) rfl rfl (Nat.le_refl 0) (Nat.le_refl 0) dX5_answer_144
  · replace h := (if_neg c_1).symm.trans h
    by_cases c_2 : wI x1 = 1
    · replace h := (if_pos c_2).symm.trans h
      refine r_tsw (pc := 99) (tgt := 145) (k' := 1) (rfl.trans c_2) dX5_answer_99 (by decide) rfl (by decide) ?_
      refine r_aload_n (pc := 145) (i := 0) dX5_answer_145 rfl 0 rfl ?_
      refine r_getI (pc := 146) fg_5_46 rfl oa0 dX5_answer_146 ?_
      cases h
      exact r_iret (pc := 149) rfl rfl (Nat.le_refl 0) (Nat.le_refl 0) dX5_answer_149
    · replace h := (if_neg c_2).symm.trans h
      by_cases c_3 : wI x1 = 2
      · replace h := (if_pos c_3).symm.trans h
        refine r_tsw (pc := 99) (tgt := 150) (k' := 2) (rfl.trans c_3) dX5_answer_99 (by decide) rfl (by decide) ?_
        refine r_aload_n (pc := 150) (i := 0) dX5_answer_150 rfl 0 rfl ?_
        refine r_getI (pc := 151) fg_5_49 rfl oa0 dX5_answer_151 ?_
        cases h
        exact r_iret (pc := 154) rfl rfl (Nat.le_refl 0) (Nat.le_refl 0) dX5_answer_154
      · replace h := (if_neg c_3).symm.trans h
        by_cases c_4 : wI x1 = 3
        · replace h := (if_pos c_4).symm.trans h
          refine r_tsw (pc := 99) (tgt := 155) (k' := 3) (rfl.trans c_4) dX5_answer_99 (by decide) rfl (by decide) ?_
          refine r_aload_n (pc := 155) (i := 0) dX5_answer_155 rfl 0 rfl ?_
          refine r_getI (pc := 156) fg_5_52 rfl oa0 dX5_answer_156 ?_
          cases h
          exact r_iret (pc := 159) rfl rfl (Nat.le_refl 0) (Nat.le_refl 0) dX5_answer_159
        · replace h := (if_neg c_4).symm.trans h
          by_cases c_5 : wI x1 = 4
          · replace h := (if_pos c_5).symm.trans h
            refine r_tsw (pc := 99) (tgt := 160) (k' := 4) (rfl.trans c_5) dX5_answer_99 (by decide) rfl (by decide) ?_
            refine r_aload_n (pc := 160) (i := 0) dX5_answer_160 rfl 0 rfl ?_
            refine r_getI (pc := 161) fg_5_55 rfl oa0 dX5_answer_161 ?_
            cases h
            exact r_iret (pc := 164) rfl rfl (Nat.le_refl 0) (Nat.le_refl 0) dX5_answer_164
          · replace h := (if_neg c_5).symm.trans h
            by_cases c_6 : wI x1 = 5
            · replace h := (if_pos c_6).symm.trans h
              refine r_tsw (pc := 99) (tgt := 165) (k' := 5) (rfl.trans c_6) dX5_answer_99 (by decide) rfl (by decide) ?_
              refine r_aload_n (pc := 165) (i := 0) dX5_answer_165 rfl 0 rfl ?_
              refine r_getI (pc := 166) fg_5_58 rfl oa0 dX5_answer_166 ?_
              cases h
              exact r_iret (pc := 169) rfl rfl (Nat.le_refl 0) (Nat.le_refl 0) dX5_answer_169
            · replace h := (if_neg c_6).symm.trans h
              by_cases c_7 : wI x1 = 6
              · replace h := (if_pos c_7).symm.trans h
                refine r_tsw (pc := 99) (tgt := 170) (k' := 6) (rfl.trans c_7) dX5_answer_99 (by decide) rfl (by decide) ?_
                refine r_aload_n (pc := 170) (i := 0) dX5_answer_170 rfl 0 rfl ?_
                refine r_getI (pc := 171) fg_5_61 rfl oa0 dX5_answer_171 ?_
                cases h
                exact r_iret (pc := 174) rfl rfl (Nat.le_refl 0) (Nat.le_refl 0) dX5_answer_174
              · replace h := (if_neg c_7).symm.trans h
                refine r_tswD (pc := 99) (tgt := 175) rfl dX5_answer_99 (by omega) (by decide) ?_
                refine r_iconst (pc := 175) (v := (-1)) dX5_answer_175 (by decide +kernel) ?_
                cases h
                exact r_iret (pc := 176) rfl rfl (Nat.le_refl 0) (Nat.le_refl 0) dX5_answer_176
set_option maxHeartbeats 4000000 in
set_option maxRecDepth 100000 in
theorem bX5_answer_b71 {G : GG} (a0 : Nat) (x1 : Int) (M : MM) (oa0 : OB L0 a0 5)  {res : Int}  (h : sX5_answer_b71 a0 x1 M = some res) : VV G xX5_answer (ZM G xX5_answer (some (.int (eI res))) L0 M) L0 M 0 0 71 [(0, .ref (gA G a0)), (1, .int (eI x1))] [] := by
  unfold sX5_answer_b71 at h
  refine r_iload_n (pc := 71) (i := 1) dX5_answer_71 rfl 1 rfl ?_
  refine r_bipush (pc := 72) (v := 40) dX5_answer_72 (by decide +kernel) ?_
  refine r_icmp_lt (pc := 74) (tgt := 98) dX5_answer_74 (by decide) rfl wl_40 (fun c_1 => ?_) (fun c_1 => ?_)
  · replace h := (if_pos c_1).symm.trans h
    refine r_sub (lv' := [(0, .ref (gA G a0)), (1, .int (eI x1))]) [0, 1] rfl ?_
    exact bX5_answer_b98 a0 x1 M oa0 h
  · replace h := (if_neg c_1).symm.trans h
    refine r_iload_n (pc := 77) (i := 1) dX5_answer_77 rfl 1 rfl ?_
    refine r_bipush (pc := 78) (v := 40) dX5_answer_78 (by decide +kernel) ?_
    refine r_aload_n (pc := 80) (i := 0) dX5_answer_80 rfl 0 rfl ?_
    refine r_getI (pc := 81) fg_5_42 rfl oa0 dX5_answer_81 ?_
    refine r_iadd (pc := 84) dX5_answer_84 ?_
    refine r_icmp_ge (pc := 85) (tgt := 98) dX5_answer_85 (by decide) rfl rfl (fun c_2 => ?_) (fun c_2 => ?_)
    · replace h := (if_pos c_2).symm.trans h
      refine r_sub (lv' := [(0, .ref (gA G a0)), (1, .int (eI x1))]) [0, 1] rfl ?_
      exact bX5_answer_b98 a0 x1 M oa0 h
    · replace h := (if_neg c_2).symm.trans h
      refine r_aload_n (pc := 88) (i := 0) dX5_answer_88 rfl 0 rfl ?_
      have o_3 := (wt_5_2 oa0).2
      refine r_getR (pc := 89) fg_5_15 rfl oa0 (wt_5_2 oa0).1 dX5_answer_89 ?_
      refine r_iload_n (pc := 92) (i := 1) dX5_answer_92 rfl 1 rfl ?_
      refine r_bipush (pc := 93) (v := 40) dX5_answer_93 (by decide +kernel) ?_
      refine r_isub (pc := 95) dX5_answer_95 ?_
      obtain ⟨c_4, h⟩ := og h
      refine r_iald (pc := 96) o_3 rfl c_4 rfl dX5_answer_96 ?_
      cases h
      exact r_iret (pc := 97) rfl rfl (Nat.le_refl 0) (Nat.le_refl 0) dX5_answer_97
set_option maxHeartbeats 4000000 in
set_option maxRecDepth 100000 in
theorem bX5_answer_b44 {G : GG} (a0 : Nat) (x1 : Int) (M : MM) (oa0 : OB L0 a0 5)  {res : Int}  (h : sX5_answer_b44 a0 x1 M = some res) : VV G xX5_answer (ZM G xX5_answer (some (.int (eI res))) L0 M) L0 M 0 0 44 [(0, .ref (gA G a0)), (1, .int (eI x1))] [] := by
  unfold sX5_answer_b44 at h
  refine r_iload_n (pc := 44) (i := 1) dX5_answer_44 rfl 1 rfl ?_
  refine r_bipush (pc := 45) (v := 30) dX5_answer_45 (by decide +kernel) ?_
  refine r_icmp_lt (pc := 47) (tgt := 71) dX5_answer_47 (by decide) rfl wl_30 (fun c_1 => ?_) (fun c_1 => ?_)
  · replace h := (if_pos c_1).symm.trans h
    refine r_sub (lv' := [(0, .ref (gA G a0)), (1, .int (eI x1))]) [0, 1] rfl ?_
    exact bX5_answer_b71 a0 x1 M oa0 h
  · replace h := (if_neg c_1).symm.trans h
    refine r_iload_n (pc := 50) (i := 1) dX5_answer_50 rfl 1 rfl ?_
    refine r_bipush (pc := 51) (v := 30) dX5_answer_51 (by decide +kernel) ?_
    refine r_aload_n (pc := 53) (i := 0) dX5_answer_53 rfl 0 rfl ?_
    refine r_getI (pc := 54) fg_5_42 rfl oa0 dX5_answer_54 ?_
    refine r_iadd (pc := 57) dX5_answer_57 ?_
    refine r_icmp_ge (pc := 58) (tgt := 71) dX5_answer_58 (by decide) rfl rfl (fun c_2 => ?_) (fun c_2 => ?_)
    · replace h := (if_pos c_2).symm.trans h
      refine r_sub (lv' := [(0, .ref (gA G a0)), (1, .int (eI x1))]) [0, 1] rfl ?_
      exact bX5_answer_b71 a0 x1 M oa0 h
    · replace h := (if_neg c_2).symm.trans h
      refine r_aload_n (pc := 61) (i := 0) dX5_answer_61 rfl 0 rfl ?_
      have o_3 := (wt_5_1 oa0).2
      refine r_getR (pc := 62) fg_5_9 rfl oa0 (wt_5_1 oa0).1 dX5_answer_62 ?_
      refine r_iload_n (pc := 65) (i := 1) dX5_answer_65 rfl 1 rfl ?_
      refine r_bipush (pc := 66) (v := 30) dX5_answer_66 (by decide +kernel) ?_
      refine r_isub (pc := 68) dX5_answer_68 ?_
      obtain ⟨c_4, h⟩ := og h
      refine r_iald (pc := 69) o_3 rfl c_4 rfl dX5_answer_69 ?_
      cases h
      exact r_iret (pc := 70) rfl rfl (Nat.le_refl 0) (Nat.le_refl 0) dX5_answer_70
set_option maxHeartbeats 4000000 in
set_option maxRecDepth 100000 in
theorem bX5_answer_b22 {G : GG} (a0 : Nat) (x1 : Int) (M : MM) (oa0 : OB L0 a0 5)  {res : Int}  (h : sX5_answer_b22 a0 x1 M = some res) : VV G xX5_answer (ZM G xX5_answer (some (.int (eI res))) L0 M) L0 M 0 0 22 [(0, .ref (gA G a0)), (1, .int (eI x1))] [] := by
  unfold sX5_answer_b22 at h
  refine r_iload_n (pc := 22) (i := 1) dX5_answer_22 rfl 1 rfl ?_
  refine r_bipush (pc := 23) (v := 20) dX5_answer_23 (by decide +kernel) ?_
  refine r_icmp_lt (pc := 25) (tgt := 44) dX5_answer_25 (by decide) rfl wl_20 (fun c_1 => ?_) (fun c_1 => ?_)
  · replace h := (if_pos c_1).symm.trans h
    refine r_sub (lv' := [(0, .ref (gA G a0)), (1, .int (eI x1))]) [0, 1] rfl ?_
    exact bX5_answer_b44 a0 x1 M oa0 h
  · replace h := (if_neg c_1).symm.trans h
    refine r_iload_n (pc := 28) (i := 1) dX5_answer_28 rfl 1 rfl ?_
    refine r_bipush (pc := 29) (v := 23) dX5_answer_29 (by decide +kernel) ?_
    refine r_icmp_ge (pc := 31) (tgt := 44) dX5_answer_31 (by decide) rfl wl_23 (fun c_2 => ?_) (fun c_2 => ?_)
    · replace h := (if_pos c_2).symm.trans h
      refine r_sub (lv' := [(0, .ref (gA G a0)), (1, .int (eI x1))]) [0, 1] rfl ?_
      exact bX5_answer_b44 a0 x1 M oa0 h
    · replace h := (if_neg c_2).symm.trans h
      refine r_aload_n (pc := 34) (i := 0) dX5_answer_34 rfl 0 rfl ?_
      have o_3 := (wt_5_11 oa0).2
      refine r_getR (pc := 35) fg_5_39 rfl oa0 (wt_5_11 oa0).1 dX5_answer_35 ?_
      refine r_iload_n (pc := 38) (i := 1) dX5_answer_38 rfl 1 rfl ?_
      refine r_bipush (pc := 39) (v := 20) dX5_answer_39 (by decide +kernel) ?_
      refine r_isub (pc := 41) dX5_answer_41 ?_
      obtain ⟨c_4, h⟩ := og h
      refine r_iald (pc := 42) o_3 rfl c_4 rfl dX5_answer_42 ?_
      cases h
      exact r_iret (pc := 43) rfl rfl (Nat.le_refl 0) (Nat.le_refl 0) dX5_answer_43
set_option maxHeartbeats 4000000 in
set_option maxRecDepth 100000 in
theorem bX5_answer_b0 {G : GG} (a0 : Nat) (x1 : Int) (M : MM) (oa0 : OB L0 a0 5)  {res : Int}  (h : sX5_answer_b0 a0 x1 M = some res) : VV G xX5_answer (ZM G xX5_answer (some (.int (eI res))) L0 M) L0 M 0 0 0 [(0, .ref (gA G a0)), (1, .int (eI x1))] [] := by
  unfold sX5_answer_b0 at h
  refine r_iload_n (pc := 0) (i := 1) dX5_answer_0 rfl 1 rfl ?_
  refine r_bipush (pc := 1) (v := 10) dX5_answer_1 (by decide +kernel) ?_
  refine r_icmp_lt (pc := 3) (tgt := 22) dX5_answer_3 (by decide) rfl wl_10 (fun c_1 => ?_) (fun c_1 => ?_)
  · replace h := (if_pos c_1).symm.trans h
    refine r_sub (lv' := [(0, .ref (gA G a0)), (1, .int (eI x1))]) [0, 1] rfl ?_
    exact bX5_answer_b22 a0 x1 M oa0 h
  · replace h := (if_neg c_1).symm.trans h
    refine r_iload_n (pc := 6) (i := 1) dX5_answer_6 rfl 1 rfl ?_
    refine r_bipush (pc := 7) (v := 18) dX5_answer_7 (by decide +kernel) ?_
    refine r_icmp_ge (pc := 9) (tgt := 22) dX5_answer_9 (by decide) rfl wl_18 (fun c_2 => ?_) (fun c_2 => ?_)
    · replace h := (if_pos c_2).symm.trans h
      refine r_sub (lv' := [(0, .ref (gA G a0)), (1, .int (eI x1))]) [0, 1] rfl ?_
      exact bX5_answer_b22 a0 x1 M oa0 h
    · replace h := (if_neg c_2).symm.trans h
      refine r_aload_n (pc := 12) (i := 0) dX5_answer_12 rfl 0 rfl ?_
      have o_3 := (wt_5_10 oa0).2
      refine r_getR (pc := 13) fg_5_36 rfl oa0 (wt_5_10 oa0).1 dX5_answer_13 ?_
      refine r_iload_n (pc := 16) (i := 1) dX5_answer_16 rfl 1 rfl ?_
      refine r_bipush (pc := 17) (v := 10) dX5_answer_17 (by decide +kernel) ?_
      refine r_isub (pc := 19) dX5_answer_19 ?_
      obtain ⟨c_4, h⟩ := og h
      refine r_iald (pc := 20) o_3 rfl c_4 rfl dX5_answer_20 ?_
      cases h
      exact r_iret (pc := 21) rfl rfl (Nat.le_refl 0) (Nat.le_refl 0) dX5_answer_21
theorem kX5_answer {G : GG} (a0 : Nat) (x1 : Int) (M : MM) {res : Int} (oa0 : OB L0 a0 5) (h : sX5_answer a0 x1 M = some res) : CO G xX5_answer [.ref (gA G a0), .int (eI x1)] L0 M (some (.int (eI res))) L0 M := CO_of (by decide +kernel) (Nat.le_of_ble_eq_true rfl) (bX5_answer_b0 a0 x1 M oa0 h)
abbrev xX5_answerOf : XX := (yX5_answerOf, cX5_answerOf, 3, (some .int), 2, 43, 0, 0)
theorem ck_X5_answerOf_64 : CKV xX5_answerOf 64 xX5_has 1 := ⟨⟨tb_i 886 (by decide +kernel) (by decide +kernel), tb_i 141 (by decide +kernel) (by decide +kernel), tb_i 881 (by decide +kernel) (by decide +kernel), ⟨by decide +kernel, by decide +kernel, by decide +kernel⟩, by decide, by decide⟩, tb_i 879 (by decide +kernel) (by decide +kernel), tb_i 880 (by decide +kernel) (by decide +kernel)⟩
theorem ck_X5_answerOf_83 : CKV xX5_answerOf 83 xX5_tieOf 2 := ⟨⟨tb_i 887 (by decide +kernel) (by decide +kernel), tb_i 141 (by decide +kernel) (by decide +kernel), tb_i 890 (by decide +kernel) (by decide +kernel), ⟨by decide +kernel, by decide +kernel, by decide +kernel⟩, by decide, by decide⟩, tb_i 888 (by decide +kernel) (by decide +kernel), tb_i 889 (by decide +kernel) (by decide +kernel)⟩
def sX5_answerOf_b37 (a0 : Nat) (x1 : Int) (x2 : Int) (M : MM)   : Option Int := (if wI x2 = 0 then (if 0 ≤ wI x1 ∧ wI x1 < 8 then (some ((M (gR a0 4) (wI x1).toNat))) else none) else (if wI x2 = 1 then (if 0 ≤ wI x1 ∧ wI x1 < 8 then (some ((M (gR a0 5) (wI x1).toNat))) else none) else (if wI x2 = 2 then (if 0 ≤ wI x1 ∧ wI x1 < 8 then (some ((M (gR a0 6) (wI x1).toNat))) else none) else (if wI x2 = 3 then (if 0 ≤ wI x1 ∧ wI x1 < 8 then (some ((M (gR a0 7) (wI x1).toNat))) else none) else (if wI x2 = 4 then (if 0 ≤ wI x1 ∧ wI x1 < 8 then (some ((M (gR a0 8) (wI x1).toNat))) else none) else (some ((-1))))))))
def sX5_answerOf_b0 (a0 : Nat) (x1 : Int) (x2 : Int) (M : MM)   : Option Int := (if wI (sX5_has a0 x1 M) = 0 then (some ((-1))) else (if wI x2 < 10 then (sX5_answerOf_b37 a0 x1 x2 M) else (if wI (10 + (M a0 3)) ≤ wI x2 then (sX5_answerOf_b37 a0 x1 x2 M) else ((sX5_tieOf a0 x1 (x2 - 10) M).bind fun q_4 => (some (q_4))))))
def sX5_answerOf (a0 : Nat) (x1 : Int) (x2 : Int) (M : MM) : Option Int := sX5_answerOf_b0 a0 x1 x2 M
set_option maxHeartbeats 4000000 in
set_option maxRecDepth 100000 in
theorem bX5_answerOf_b37 {G : GG} (a0 : Nat) (x1 : Int) (x2 : Int) (M : MM) (oa0 : OB L0 a0 5)  {res : Int}  (h : sX5_answerOf_b37 a0 x1 x2 M = some res) : VV G xX5_answerOf (ZM G xX5_answerOf (some (.int (eI res))) L0 M) L0 M 0 0 37 [(0, .ref (gA G a0)), (1, .int (eI x1)), (2, .int (eI x2))] [] := by
  unfold sX5_answerOf_b37 at h
  refine r_iload_n (pc := 37) (i := 2) dX5_answerOf_37 rfl 2 rfl ?_
  by_cases c_1 : wI x2 = 0
  · replace h := (if_pos c_1).symm.trans h
    refine r_tsw (pc := 38) (tgt := 72) (k' := 0) (rfl.trans c_1) dX5_answerOf_38 (by decide) rfl (by decide) ?_
    refine r_aload_n (pc := 72) (i := 0) dX5_answerOf_72 rfl 0 rfl ?_
    have o_2 := (wt_5_4 oa0).2
    refine r_getR (pc := 73) fg_5_18 rfl oa0 (wt_5_4 oa0).1 dX5_answerOf_73 ?_
    refine r_iload_n (pc := 76) (i := 1) dX5_answerOf_76 rfl 1 rfl ?_
    obtain ⟨c_3, h⟩ := og h
    refine r_iald (pc := 77) o_2 rfl c_3 rfl dX5_answerOf_77 ?_
    cases h
    exact r_iret (pc := 78) rfl rfl (Nat.le_refl 0) (Nat.le_refl 0) dX5_answerOf_78
  · replace h := (if_neg c_1).symm.trans h
    by_cases c_4 : wI x2 = 1
    · replace h := (if_pos c_4).symm.trans h
      refine r_tsw (pc := 38) (tgt := 79) (k' := 1) (rfl.trans c_4) dX5_answerOf_38 (by decide) rfl (by decide) ?_
      refine r_aload_n (pc := 79) (i := 0) dX5_answerOf_79 rfl 0 rfl ?_
      have o_5 := (wt_5_5 oa0).2
      refine r_getR (pc := 80) fg_5_21 rfl oa0 (wt_5_5 oa0).1 dX5_answerOf_80 ?_
      refine r_iload_n (pc := 83) (i := 1) dX5_answerOf_83 rfl 1 rfl ?_
      obtain ⟨c_6, h⟩ := og h
      refine r_iald (pc := 84) o_5 rfl c_6 rfl dX5_answerOf_84 ?_
      cases h
      exact r_iret (pc := 85) rfl rfl (Nat.le_refl 0) (Nat.le_refl 0) dX5_answerOf_85
    · replace h := (if_neg c_4).symm.trans h
      by_cases c_7 : wI x2 = 2
      · replace h := (if_pos c_7).symm.trans h
        refine r_tsw (pc := 38) (tgt := 86) (k' := 2) (rfl.trans c_7) dX5_answerOf_38 (by decide) rfl (by decide) ?_
        refine r_aload_n (pc := 86) (i := 0) dX5_answerOf_86 rfl 0 rfl ?_
        have o_8 := (wt_5_6 oa0).2
        refine r_getR (pc := 87) fg_5_24 rfl oa0 (wt_5_6 oa0).1 dX5_answerOf_87 ?_
        refine r_iload_n (pc := 90) (i := 1) dX5_answerOf_90 rfl 1 rfl ?_
        obtain ⟨c_9, h⟩ := og h
        refine r_iald (pc := 91) o_8 rfl c_9 rfl dX5_answerOf_91 ?_
        cases h
        exact r_iret (pc := 92) rfl rfl (Nat.le_refl 0) (Nat.le_refl 0) dX5_answerOf_92
      · replace h := (if_neg c_7).symm.trans h
        by_cases c_10 : wI x2 = 3
        · replace h := (if_pos c_10).symm.trans h
          refine r_tsw (pc := 38) (tgt := 93) (k' := 3) (rfl.trans c_10) dX5_answerOf_38 (by decide) rfl (by decide) ?_
          refine r_aload_n (pc := 93) (i := 0) dX5_answerOf_93 rfl 0 rfl ?_
          have o_11 := (wt_5_7 oa0).2
          refine r_getR (pc := 94) fg_5_27 rfl oa0 (wt_5_7 oa0).1 dX5_answerOf_94 ?_
          refine r_iload_n (pc := 97) (i := 1) dX5_answerOf_97 rfl 1 rfl ?_
          obtain ⟨c_12, h⟩ := og h
          refine r_iald (pc := 98) o_11 rfl c_12 rfl dX5_answerOf_98 ?_
          cases h
          exact r_iret (pc := 99) rfl rfl (Nat.le_refl 0) (Nat.le_refl 0) dX5_answerOf_99
        · replace h := (if_neg c_10).symm.trans h
          by_cases c_13 : wI x2 = 4
          · replace h := (if_pos c_13).symm.trans h
            refine r_tsw (pc := 38) (tgt := 100) (k' := 4) (rfl.trans c_13) dX5_answerOf_38 (by decide) rfl (by decide) ?_
            refine r_aload_n (pc := 100) (i := 0) dX5_answerOf_100 rfl 0 rfl ?_
            have o_14 := (wt_5_8 oa0).2
            refine r_getR (pc := 101) fg_5_30 rfl oa0 (wt_5_8 oa0).1 dX5_answerOf_101 ?_
            refine r_iload_n (pc := 104) (i := 1) dX5_answerOf_104 rfl 1 rfl ?_
            obtain ⟨c_15, h⟩ := og h
            refine r_iald (pc := 105) o_14 rfl c_15 rfl dX5_answerOf_105 ?_
            cases h
            exact r_iret (pc := 106) rfl rfl (Nat.le_refl 0) (Nat.le_refl 0) dX5_answerOf_106
          · replace h := (if_neg c_13).symm.trans h
            refine r_tswD (pc := 38) (tgt := 107) rfl dX5_answerOf_38 (by omega) (by decide) ?_
            refine r_iconst (pc := 107) (v := (-1)) dX5_answerOf_107 (by decide +kernel) ?_
            cases h
            exact r_iret (pc := 108) rfl rfl (Nat.le_refl 0) (Nat.le_refl 0) dX5_answerOf_108
set_option maxHeartbeats 4000000 in
set_option maxRecDepth 100000 in
theorem bX5_answerOf_b0 {G : GG} (a0 : Nat) (x1 : Int) (x2 : Int) (M : MM) (oa0 : OB L0 a0 5)  {res : Int}  (h : sX5_answerOf_b0 a0 x1 x2 M = some res) : VV G xX5_answerOf (ZM G xX5_answerOf (some (.int (eI res))) L0 M) L0 M 0 0 0 [(0, .ref (gA G a0)), (1, .int (eI x1)), (2, .int (eI x2))] [] := by
  unfold sX5_answerOf_b0 at h
  refine r_aload_n (pc := 0) (i := 0) dX5_answerOf_0 rfl 0 rfl ?_
  refine r_iload_n (pc := 1) (i := 1) dX5_answerOf_1 rfl 1 rfl ?_
  refine r_cV (pc := 2) (Y := xX5_has) (As := [.int (eI x1)]) (rest := []) (v := (some (.int (eI (sX5_has a0 x1 M))))) (st1 := [.int (eI (sX5_has a0 x1 M))]) ck_X5_answerOf_64 (kX5_has a0 x1 M oa0) oa0 rfl rfl rfl rfl (Nat.le_of_ble_eq_true rfl) ⟨rfl, rfl⟩ rfl dX5_answerOf_2 ?_
  refine r_if_ne (pc := 5) (tgt := 10) dX5_answerOf_5 (by decide) rfl (fun c_1 => ?_) (fun c_1 => ?_)
  · replace h := (if_neg c_1).symm.trans h
    refine r_iload_n (pc := 10) (i := 2) dX5_answerOf_10 rfl 2 rfl ?_
    refine r_bipush (pc := 11) (v := 10) dX5_answerOf_11 (by decide +kernel) ?_
    refine r_icmp_lt (pc := 13) (tgt := 37) dX5_answerOf_13 (by decide) rfl wl_10 (fun c_2 => ?_) (fun c_2 => ?_)
    · replace h := (if_pos c_2).symm.trans h
      refine r_sub (lv' := [(0, .ref (gA G a0)), (1, .int (eI x1)), (2, .int (eI x2))]) [0, 1, 2] rfl ?_
      exact bX5_answerOf_b37 a0 x1 x2 M oa0 h
    · replace h := (if_neg c_2).symm.trans h
      refine r_iload_n (pc := 16) (i := 2) dX5_answerOf_16 rfl 2 rfl ?_
      refine r_bipush (pc := 17) (v := 10) dX5_answerOf_17 (by decide +kernel) ?_
      refine r_aload_n (pc := 19) (i := 0) dX5_answerOf_19 rfl 0 rfl ?_
      refine r_getI (pc := 20) fg_5_46 rfl oa0 dX5_answerOf_20 ?_
      refine r_iadd (pc := 23) dX5_answerOf_23 ?_
      refine r_icmp_ge (pc := 24) (tgt := 37) dX5_answerOf_24 (by decide) rfl rfl (fun c_3 => ?_) (fun c_3 => ?_)
      · replace h := (if_pos c_3).symm.trans h
        refine r_sub (lv' := [(0, .ref (gA G a0)), (1, .int (eI x1)), (2, .int (eI x2))]) [0, 1, 2] rfl ?_
        exact bX5_answerOf_b37 a0 x1 x2 M oa0 h
      · replace h := (if_neg c_3).symm.trans h
        refine r_aload_n (pc := 27) (i := 0) dX5_answerOf_27 rfl 0 rfl ?_
        refine r_iload_n (pc := 28) (i := 1) dX5_answerOf_28 rfl 1 rfl ?_
        refine r_iload_n (pc := 29) (i := 2) dX5_answerOf_29 rfl 2 rfl ?_
        refine r_bipush (pc := 30) (v := 10) dX5_answerOf_30 (by decide +kernel) ?_
        refine r_isub (pc := 32) dX5_answerOf_32 ?_
        obtain ⟨q_4, hq_4, h⟩ := ob h
        refine r_cV (pc := 33) (Y := xX5_tieOf) (As := [.int (eI x1), .int (eI (x2 - 10))]) (rest := []) (v := (some (.int (eI q_4)))) (st1 := [.int (eI q_4)]) ck_X5_answerOf_83 (kX5_tieOf a0 x1 (x2 - 10) M oa0 hq_4) oa0 rfl rfl rfl rfl (Nat.le_of_ble_eq_true rfl) ⟨rfl, rfl⟩ rfl dX5_answerOf_33 ?_
        cases h
        exact r_iret (pc := 36) rfl rfl (Nat.le_refl 0) (Nat.le_refl 0) dX5_answerOf_36
  · replace h := (if_pos c_1).symm.trans h
    refine r_iconst (pc := 8) (v := (-1)) dX5_answerOf_8 (by decide +kernel) ?_
    cases h
    exact r_iret (pc := 9) rfl rfl (Nat.le_refl 0) (Nat.le_refl 0) dX5_answerOf_9
theorem kX5_answerOf {G : GG} (a0 : Nat) (x1 : Int) (x2 : Int) (M : MM) {res : Int} (oa0 : OB L0 a0 5) (h : sX5_answerOf a0 x1 x2 M = some res) : CO G xX5_answerOf [.ref (gA G a0), .int (eI x1), .int (eI x2)] L0 M (some (.int (eI res))) L0 M := CO_of (by decide +kernel) (Nat.le_of_ble_eq_true rfl) (bX5_answerOf_b0 a0 x1 x2 M oa0 h)
abbrev xX5_copy : XX := (yX5_copy, cX5_copy, 2, none, 1, 26, 0, 0)
def sX5_copy_b0 (a0 : Nat) (a1 : Nat)   (M : MM) : Option MM := ((some (mU M a0 0 (M a1 0))).bind fun M_1 => ((some (mC M_1 (gR a1 1) (gR a0 1) 5)).bind fun M_4 => ((some (mC M_4 (gR a1 2) (gR a0 2) 5)).bind fun M_7 => ((some (mU M_7 a0 3 (M_7 a1 3))).bind fun M_8 => ((some (mC M_8 (gR a1 4) (gR a0 4) 8)).bind fun M_11 => ((some (mC M_11 (gR a1 5) (gR a0 5) 8)).bind fun M_14 => ((some (mC M_14 (gR a1 6) (gR a0 6) 8)).bind fun M_17 => ((some (mC M_17 (gR a1 7) (gR a0 7) 8)).bind fun M_20 => ((some (mC M_20 (gR a1 8) (gR a0 8) 8)).bind fun M_23 => ((some (mC M_23 (gR a1 9) (gR a0 9) 64)).bind fun M_26 => ((some (mC M_26 (gR a1 10) (gR a0 10) 8)).bind fun M_29 => ((some (mC M_29 (gR a1 11) (gR a0 11) 3)).bind fun M_32 => ((some (mU M_32 a0 12 (M_32 a1 12))).bind fun M_33 => ((some (mU M_33 a0 13 (M_33 a1 13))).bind fun M_34 => ((some (mU M_34 a0 14 (M_34 a1 14))).bind fun M_35 => ((some (mU M_35 a0 15 (M_35 a1 15))).bind fun M_36 => ((some (mU M_36 a0 16 (M_36 a1 16))).bind fun M_37 => (some (M_37)))))))))))))))))))
def sX5_copy (a0 : Nat) (a1 : Nat) (M : MM) : Option MM := sX5_copy_b0 a0 a1 M
set_option maxHeartbeats 4000000 in
set_option maxRecDepth 100000 in
theorem bX5_copy_b0 {G : GG} (a0 : Nat) (a1 : Nat) (oa0 : OB L0 a0 5) (oa1 : OB L0 a1 5)  (M : MM) {res : MM}  (h : sX5_copy_b0 a0 a1 M = some res) : VV G xX5_copy (ZM G xX5_copy (none) L0 res) L0 M 0 0 0 [(0, .ref (gA G a0)), (1, .ref (gA G a1))] [] := by
  unfold sX5_copy_b0 at h
  refine r_aload_n (pc := 0) (i := 0) dX5_copy_0 rfl 0 rfl ?_
  refine r_aload_n (pc := 1) (i := 1) dX5_copy_1 rfl 1 rfl ?_
  refine r_getI (pc := 2) fg_5_42 rfl oa1 dX5_copy_2 ?_
  obtain ⟨M_1, hM_1, h⟩ := ob h
  refine r_putI (pc := 5) fg_5_42 rfl oa0 hM_1 rfl rfl dX5_copy_5 ?_
  refine r_aload_n (pc := 8) (i := 1) dX5_copy_8 rfl 1 rfl ?_
  have o_2 := (wt_5_1 oa1).2
  refine r_getR (pc := 9) fg_5_9 rfl oa1 (wt_5_1 oa1).1 dX5_copy_9 ?_
  refine r_iconst (pc := 12) (v := 0) dX5_copy_12 (by decide +kernel) ?_
  refine r_aload_n (pc := 13) (i := 0) dX5_copy_13 rfl 0 rfl ?_
  have o_3 := (wt_5_1 oa0).2
  refine r_getR (pc := 14) fg_5_9 rfl oa0 (wt_5_1 oa0).1 dX5_copy_14 ?_
  refine r_iconst (pc := 17) (v := 0) dX5_copy_17 (by decide +kernel) ?_
  refine r_iconst (pc := 18) (v := 5) dX5_copy_18 (by decide +kernel) ?_
  obtain ⟨M_4, hM_4, h⟩ := ob h
  refine r_acpI (pc := 19) ml_5_86 ⟨Nat.le_of_ble_eq_true rfl, Nat.le_of_ble_eq_true rfl⟩ o_2 o_3 wl_5 ⟨by decide, by decide, by decide⟩ hM_4 dX5_copy_19 ?_
  refine r_aload_n (pc := 22) (i := 1) dX5_copy_22 rfl 1 rfl ?_
  have o_5 := (wt_5_2 oa1).2
  refine r_getR (pc := 23) fg_5_15 rfl oa1 (wt_5_2 oa1).1 dX5_copy_23 ?_
  refine r_iconst (pc := 26) (v := 0) dX5_copy_26 (by decide +kernel) ?_
  refine r_aload_n (pc := 27) (i := 0) dX5_copy_27 rfl 0 rfl ?_
  have o_6 := (wt_5_2 oa0).2
  refine r_getR (pc := 28) fg_5_15 rfl oa0 (wt_5_2 oa0).1 dX5_copy_28 ?_
  refine r_iconst (pc := 31) (v := 0) dX5_copy_31 (by decide +kernel) ?_
  refine r_iconst (pc := 32) (v := 5) dX5_copy_32 (by decide +kernel) ?_
  obtain ⟨M_7, hM_7, h⟩ := ob h
  refine r_acpI (pc := 33) ml_5_86 ⟨Nat.le_of_ble_eq_true rfl, Nat.le_of_ble_eq_true rfl⟩ o_5 o_6 wl_5 ⟨by decide, by decide, by decide⟩ hM_7 dX5_copy_33 ?_
  refine r_aload_n (pc := 36) (i := 0) dX5_copy_36 rfl 0 rfl ?_
  refine r_aload_n (pc := 37) (i := 1) dX5_copy_37 rfl 1 rfl ?_
  refine r_getI (pc := 38) fg_5_46 rfl oa1 dX5_copy_38 ?_
  obtain ⟨M_8, hM_8, h⟩ := ob h
  refine r_putI (pc := 41) fg_5_46 rfl oa0 hM_8 rfl rfl dX5_copy_41 ?_
  refine r_aload_n (pc := 44) (i := 1) dX5_copy_44 rfl 1 rfl ?_
  have o_9 := (wt_5_4 oa1).2
  refine r_getR (pc := 45) fg_5_18 rfl oa1 (wt_5_4 oa1).1 dX5_copy_45 ?_
  refine r_iconst (pc := 48) (v := 0) dX5_copy_48 (by decide +kernel) ?_
  refine r_aload_n (pc := 49) (i := 0) dX5_copy_49 rfl 0 rfl ?_
  have o_10 := (wt_5_4 oa0).2
  refine r_getR (pc := 50) fg_5_18 rfl oa0 (wt_5_4 oa0).1 dX5_copy_50 ?_
  refine r_iconst (pc := 53) (v := 0) dX5_copy_53 (by decide +kernel) ?_
  refine r_bipush (pc := 54) (v := 8) dX5_copy_54 (by decide +kernel) ?_
  obtain ⟨M_11, hM_11, h⟩ := ob h
  refine r_acpI (pc := 56) ml_5_86 ⟨Nat.le_of_ble_eq_true rfl, Nat.le_of_ble_eq_true rfl⟩ o_9 o_10 wl_8 ⟨by decide, by decide, by decide⟩ hM_11 dX5_copy_56 ?_
  refine r_aload_n (pc := 59) (i := 1) dX5_copy_59 rfl 1 rfl ?_
  have o_12 := (wt_5_5 oa1).2
  refine r_getR (pc := 60) fg_5_21 rfl oa1 (wt_5_5 oa1).1 dX5_copy_60 ?_
  refine r_iconst (pc := 63) (v := 0) dX5_copy_63 (by decide +kernel) ?_
  refine r_aload_n (pc := 64) (i := 0) dX5_copy_64 rfl 0 rfl ?_
  have o_13 := (wt_5_5 oa0).2
  refine r_getR (pc := 65) fg_5_21 rfl oa0 (wt_5_5 oa0).1 dX5_copy_65 ?_
  refine r_iconst (pc := 68) (v := 0) dX5_copy_68 (by decide +kernel) ?_
  refine r_bipush (pc := 69) (v := 8) dX5_copy_69 (by decide +kernel) ?_
  obtain ⟨M_14, hM_14, h⟩ := ob h
  refine r_acpI (pc := 71) ml_5_86 ⟨Nat.le_of_ble_eq_true rfl, Nat.le_of_ble_eq_true rfl⟩ o_12 o_13 wl_8 ⟨by decide, by decide, by decide⟩ hM_14 dX5_copy_71 ?_
  refine r_aload_n (pc := 74) (i := 1) dX5_copy_74 rfl 1 rfl ?_
  have o_15 := (wt_5_6 oa1).2
  refine r_getR (pc := 75) fg_5_24 rfl oa1 (wt_5_6 oa1).1 dX5_copy_75 ?_
  refine r_iconst (pc := 78) (v := 0) dX5_copy_78 (by decide +kernel) ?_
  refine r_aload_n (pc := 79) (i := 0) dX5_copy_79 rfl 0 rfl ?_
  have o_16 := (wt_5_6 oa0).2
  refine r_getR (pc := 80) fg_5_24 rfl oa0 (wt_5_6 oa0).1 dX5_copy_80 ?_
  refine r_iconst (pc := 83) (v := 0) dX5_copy_83 (by decide +kernel) ?_
  refine r_bipush (pc := 84) (v := 8) dX5_copy_84 (by decide +kernel) ?_
  obtain ⟨M_17, hM_17, h⟩ := ob h
  refine r_acpI (pc := 86) ml_5_86 ⟨Nat.le_of_ble_eq_true rfl, Nat.le_of_ble_eq_true rfl⟩ o_15 o_16 wl_8 ⟨by decide, by decide, by decide⟩ hM_17 dX5_copy_86 ?_
  refine r_aload_n (pc := 89) (i := 1) dX5_copy_89 rfl 1 rfl ?_
  have o_18 := (wt_5_7 oa1).2
  refine r_getR (pc := 90) fg_5_27 rfl oa1 (wt_5_7 oa1).1 dX5_copy_90 ?_
  refine r_iconst (pc := 93) (v := 0) dX5_copy_93 (by decide +kernel) ?_
  refine r_aload_n (pc := 94) (i := 0) dX5_copy_94 rfl 0 rfl ?_
  have o_19 := (wt_5_7 oa0).2
  refine r_getR (pc := 95) fg_5_27 rfl oa0 (wt_5_7 oa0).1 dX5_copy_95 ?_
  refine r_iconst (pc := 98) (v := 0) dX5_copy_98 (by decide +kernel) ?_
  refine r_bipush (pc := 99) (v := 8) dX5_copy_99 (by decide +kernel) ?_
  obtain ⟨M_20, hM_20, h⟩ := ob h
  refine r_acpI (pc := 101) ml_5_86 ⟨Nat.le_of_ble_eq_true rfl, Nat.le_of_ble_eq_true rfl⟩ o_18 o_19 wl_8 ⟨by decide, by decide, by decide⟩ hM_20 dX5_copy_101 ?_
  refine r_aload_n (pc := 104) (i := 1) dX5_copy_104 rfl 1 rfl ?_
  have o_21 := (wt_5_8 oa1).2
  refine r_getR (pc := 105) fg_5_30 rfl oa1 (wt_5_8 oa1).1 dX5_copy_105 ?_
  refine r_iconst (pc := 108) (v := 0) dX5_copy_108 (by decide +kernel) ?_
  refine r_aload_n (pc := 109) (i := 0) dX5_copy_109 rfl 0 rfl ?_
  have o_22 := (wt_5_8 oa0).2
  refine r_getR (pc := 110) fg_5_30 rfl oa0 (wt_5_8 oa0).1 dX5_copy_110 ?_
  refine r_iconst (pc := 113) (v := 0) dX5_copy_113 (by decide +kernel) ?_
  refine r_bipush (pc := 114) (v := 8) dX5_copy_114 (by decide +kernel) ?_
  obtain ⟨M_23, hM_23, h⟩ := ob h
  refine r_acpI (pc := 116) ml_5_86 ⟨Nat.le_of_ble_eq_true rfl, Nat.le_of_ble_eq_true rfl⟩ o_21 o_22 wl_8 ⟨by decide, by decide, by decide⟩ hM_23 dX5_copy_116 ?_
  refine r_aload_n (pc := 119) (i := 1) dX5_copy_119 rfl 1 rfl ?_
  have o_24 := (wt_5_9 oa1).2
  refine r_getR (pc := 120) fg_5_33 rfl oa1 (wt_5_9 oa1).1 dX5_copy_120 ?_
  refine r_iconst (pc := 123) (v := 0) dX5_copy_123 (by decide +kernel) ?_
  refine r_aload_n (pc := 124) (i := 0) dX5_copy_124 rfl 0 rfl ?_
  have o_25 := (wt_5_9 oa0).2
  refine r_getR (pc := 125) fg_5_33 rfl oa0 (wt_5_9 oa0).1 dX5_copy_125 ?_
  refine r_iconst (pc := 128) (v := 0) dX5_copy_128 (by decide +kernel) ?_
  refine r_bipush (pc := 129) (v := 64) dX5_copy_129 (by decide +kernel) ?_
  obtain ⟨M_26, hM_26, h⟩ := ob h
  refine r_acpI (pc := 131) ml_5_86 ⟨Nat.le_of_ble_eq_true rfl, Nat.le_of_ble_eq_true rfl⟩ o_24 o_25 wl_64 ⟨by decide, by decide, by decide⟩ hM_26 dX5_copy_131 ?_
  refine r_aload_n (pc := 134) (i := 1) dX5_copy_134 rfl 1 rfl ?_
  have o_27 := (wt_5_10 oa1).2
  refine r_getR (pc := 135) fg_5_36 rfl oa1 (wt_5_10 oa1).1 dX5_copy_135 ?_
  refine r_iconst (pc := 138) (v := 0) dX5_copy_138 (by decide +kernel) ?_
  refine r_aload_n (pc := 139) (i := 0) dX5_copy_139 rfl 0 rfl ?_
  have o_28 := (wt_5_10 oa0).2
  refine r_getR (pc := 140) fg_5_36 rfl oa0 (wt_5_10 oa0).1 dX5_copy_140 ?_
  refine r_iconst (pc := 143) (v := 0) dX5_copy_143 (by decide +kernel) ?_
  refine r_bipush (pc := 144) (v := 8) dX5_copy_144 (by decide +kernel) ?_
  obtain ⟨M_29, hM_29, h⟩ := ob h
  refine r_acpI (pc := 146) ml_5_86 ⟨Nat.le_of_ble_eq_true rfl, Nat.le_of_ble_eq_true rfl⟩ o_27 o_28 wl_8 ⟨by decide, by decide, by decide⟩ hM_29 dX5_copy_146 ?_
  refine r_aload_n (pc := 149) (i := 1) dX5_copy_149 rfl 1 rfl ?_
  have o_30 := (wt_5_11 oa1).2
  refine r_getR (pc := 150) fg_5_39 rfl oa1 (wt_5_11 oa1).1 dX5_copy_150 ?_
  refine r_iconst (pc := 153) (v := 0) dX5_copy_153 (by decide +kernel) ?_
  refine r_aload_n (pc := 154) (i := 0) dX5_copy_154 rfl 0 rfl ?_
  have o_31 := (wt_5_11 oa0).2
  refine r_getR (pc := 155) fg_5_39 rfl oa0 (wt_5_11 oa0).1 dX5_copy_155 ?_
  refine r_iconst (pc := 158) (v := 0) dX5_copy_158 (by decide +kernel) ?_
  refine r_iconst (pc := 159) (v := 3) dX5_copy_159 (by decide +kernel) ?_
  obtain ⟨M_32, hM_32, h⟩ := ob h
  refine r_acpI (pc := 160) ml_5_86 ⟨Nat.le_of_ble_eq_true rfl, Nat.le_of_ble_eq_true rfl⟩ o_30 o_31 wl_3 ⟨by decide, by decide, by decide⟩ hM_32 dX5_copy_160 ?_
  refine r_aload_n (pc := 163) (i := 0) dX5_copy_163 rfl 0 rfl ?_
  refine r_aload_n (pc := 164) (i := 1) dX5_copy_164 rfl 1 rfl ?_
  refine r_getI (pc := 165) fg_5_49 rfl oa1 dX5_copy_165 ?_
  obtain ⟨M_33, hM_33, h⟩ := ob h
  refine r_putI (pc := 168) fg_5_49 rfl oa0 hM_33 rfl rfl dX5_copy_168 ?_
  refine r_aload_n (pc := 171) (i := 0) dX5_copy_171 rfl 0 rfl ?_
  refine r_aload_n (pc := 172) (i := 1) dX5_copy_172 rfl 1 rfl ?_
  refine r_getI (pc := 173) fg_5_52 rfl oa1 dX5_copy_173 ?_
  obtain ⟨M_34, hM_34, h⟩ := ob h
  refine r_putI (pc := 176) fg_5_52 rfl oa0 hM_34 rfl rfl dX5_copy_176 ?_
  refine r_aload_n (pc := 179) (i := 0) dX5_copy_179 rfl 0 rfl ?_
  refine r_aload_n (pc := 180) (i := 1) dX5_copy_180 rfl 1 rfl ?_
  refine r_getI (pc := 181) fg_5_55 rfl oa1 dX5_copy_181 ?_
  obtain ⟨M_35, hM_35, h⟩ := ob h
  refine r_putI (pc := 184) fg_5_55 rfl oa0 hM_35 rfl rfl dX5_copy_184 ?_
  refine r_aload_n (pc := 187) (i := 0) dX5_copy_187 rfl 0 rfl ?_
  refine r_aload_n (pc := 188) (i := 1) dX5_copy_188 rfl 1 rfl ?_
  refine r_getI (pc := 189) fg_5_58 rfl oa1 dX5_copy_189 ?_
  obtain ⟨M_36, hM_36, h⟩ := ob h
  refine r_putI (pc := 192) fg_5_58 rfl oa0 hM_36 rfl rfl dX5_copy_192 ?_
  refine r_aload_n (pc := 195) (i := 0) dX5_copy_195 rfl 0 rfl ?_
  refine r_aload_n (pc := 196) (i := 1) dX5_copy_196 rfl 1 rfl ?_
  refine r_getI (pc := 197) fg_5_61 rfl oa1 dX5_copy_197 ?_
  obtain ⟨M_37, hM_37, h⟩ := ob h
  refine r_putI (pc := 200) fg_5_61 rfl oa0 hM_37 rfl rfl dX5_copy_200 ?_
  cases h
  exact r_vret (pc := 203) rfl (Nat.le_refl 0) (Nat.le_refl 0) dX5_copy_203
theorem kX5_copy {G : GG} (a0 : Nat) (a1 : Nat) (M : MM) {res : MM} (oa0 : OB L0 a0 5) (oa1 : OB L0 a1 5) (h : sX5_copy a0 a1 M = some res) : CO G xX5_copy [.ref (gA G a0), .ref (gA G a1)] L0 M (none) L0 res := CO_of (by decide +kernel) (Nat.le_of_ble_eq_true rfl) (bX5_copy_b0 a0 a1 oa0 oa1 M h)
abbrev xX6_begin : XX := (yX6_begin, cX6_begin, 3, none, 1, 26, 0, 0)
def sX6_begin_b92 (a0 : Nat) (a1 : Nat)  : Nat → Int → MM → Option MM
  | 0, _, _ => none
  | n + 1, x2, M => (if 24 ≤ wI x2 then (some (M)) else (if 0 ≤ wI x2 ∧ wI x2 < 24 then ((some (mU M (gR a0 10) (wI x2).toNat 0)).bind fun M_4 => ((some (x2 + 1)).bind fun v_5 => (sX6_begin_b92 a0 a1 n v_5 M_4))) else none))
def sX6_begin_b71 (a0 : Nat) (a1 : Nat)  : Nat → Int → MM → Option MM
  | 0, _, _ => none
  | n + 1, x2, M => (if 8 ≤ wI x2 then (sX6_begin_b92 a0 a1 FU 0 M) else (if 0 ≤ wI x2 ∧ wI x2 < 8 then ((some (mU M (gR a0 11) (wI x2).toNat 0)).bind fun M_4 => ((some (x2 + 1)).bind fun v_5 => (sX6_begin_b71 a0 a1 n v_5 M_4))) else none))
def sX6_begin_b0 (a0 : Nat) (a1 : Nat)   (M : MM) : Option MM := ((some (mU M a0 0 (-1))).bind fun M_1 => ((some (mU M_1 a0 1 0)).bind fun M_2 => ((some (mU M_2 a0 2 (-1))).bind fun M_3 => ((some (mU M_3 a0 3 0)).bind fun M_4 => ((some (mU M_4 a0 4 (-1))).bind fun M_5 => ((some (mU M_5 a0 5 0)).bind fun M_6 => ((some (mU M_6 a0 6 0)).bind fun M_7 => ((some (mU M_7 a0 7 (-1))).bind fun M_8 => ((some (mU M_8 a0 8 (-1))).bind fun M_9 => ((some (mU M_9 a0 12 0)).bind fun M_10 => ((some (mU M_10 a0 13 0)).bind fun M_11 => ((some (mC M_11 (gR a1 2) (gR a0 9) 5)).bind fun M_14 => (sX6_begin_b71 a0 a1 FU 0 M_14)))))))))))))
def sX6_begin (a0 : Nat) (a1 : Nat) (M : MM) : Option MM := sX6_begin_b0 a0 a1 M
set_option maxHeartbeats 4000000 in
set_option maxRecDepth 100000 in
theorem bX6_begin_b92 {G : GG} (a0 : Nat) (a1 : Nat) (oa0 : OB L0 a0 6) (oa1 : OB L0 a1 5) {res : MM} : ∀ (n : Nat) (x2 : Int) (M : MM)  (h : sX6_begin_b92 a0 a1 n x2 M = some res), VV G xX6_begin (ZM G xX6_begin (none) L0 res) L0 M 0 0 92 [(0, .ref (gA G a0)), (2, .int (eI x2))] [] := by
  intro n
  induction n with
  | zero =>
    intro x2 M h
    rw [sX6_begin_b92] at h
    cases h
  | succ n ih =>
    intro x2 M h
    rw [sX6_begin_b92] at h
    refine r_iload_n (pc := 92) (i := 2) dX6_begin_92 rfl 1 rfl ?_
    refine r_bipush (pc := 93) (v := 24) dX6_begin_93 (by decide +kernel) ?_
    refine r_icmp_ge (pc := 95) (tgt := 111) dX6_begin_95 (by decide) rfl wl_24 (fun c_1 => ?_) (fun c_1 => ?_)
    · replace h := (if_pos c_1).symm.trans h
      cases h
      exact r_vret (pc := 111) rfl (Nat.le_refl 0) (Nat.le_refl 0) dX6_begin_111
    · replace h := (if_neg c_1).symm.trans h
      refine r_aload_n (pc := 98) (i := 0) dX6_begin_98 rfl 0 rfl ?_
      have o_2 := (wt_6_10 oa0).2
      refine r_getR (pc := 99) fg_6_15 rfl oa0 (wt_6_10 oa0).1 dX6_begin_99 ?_
      refine r_iload_n (pc := 102) (i := 2) dX6_begin_102 rfl 1 rfl ?_
      refine r_iconst (pc := 103) (v := 0) dX6_begin_103 (by decide +kernel) ?_
      obtain ⟨c_3, h⟩ := og h
      obtain ⟨M_4, hM_4, h⟩ := ob h
      refine r_iast (pc := 104) o_2 rfl c_3 rfl hM_4 dX6_begin_104 ?_
      obtain ⟨v_5, hv_5, h⟩ := ob h
      refine r_iinc (pc := 105) (y := v_5) (lv' := [(2, .int (eI v_5)), (0, .ref (gA G a0))]) dX6_begin_105 1 rfl (Option.some.inj hv_5) (Nat.le_of_ble_eq_true rfl) rfl ?_
      refine r_goto (pc := 108) (tgt := 92) dX6_begin_108 (by decide) ?_
      refine r_sub (lv' := [(0, .ref (gA G a0)), (2, .int (eI v_5))]) [1, 0] rfl ?_
      exact ih _ _ h
set_option maxHeartbeats 4000000 in
set_option maxRecDepth 100000 in
theorem bX6_begin_b71 {G : GG} (a0 : Nat) (a1 : Nat) (oa0 : OB L0 a0 6) (oa1 : OB L0 a1 5) {res : MM} : ∀ (n : Nat) (x2 : Int) (M : MM)  (h : sX6_begin_b71 a0 a1 n x2 M = some res), VV G xX6_begin (ZM G xX6_begin (none) L0 res) L0 M 0 0 71 [(0, .ref (gA G a0)), (2, .int (eI x2))] [] := by
  intro n
  induction n with
  | zero =>
    intro x2 M h
    rw [sX6_begin_b71] at h
    cases h
  | succ n ih =>
    intro x2 M h
    rw [sX6_begin_b71] at h
    refine r_iload_n (pc := 71) (i := 2) dX6_begin_71 rfl 1 rfl ?_
    refine r_bipush (pc := 72) (v := 8) dX6_begin_72 (by decide +kernel) ?_
    refine r_icmp_ge (pc := 74) (tgt := 90) dX6_begin_74 (by decide) rfl wl_8 (fun c_1 => ?_) (fun c_1 => ?_)
    · replace h := (if_pos c_1).symm.trans h
      refine r_iconst (pc := 90) (v := 0) dX6_begin_90 (by decide +kernel) ?_
      refine r_istore_n (pc := 91) (i := 2) (lv' := [(2, .int (eI 0)), (0, .ref (gA G a0))]) dX6_begin_91 rfl (Nat.le_of_ble_eq_true rfl) rfl ?_
      refine r_sub (lv' := [(0, .ref (gA G a0)), (2, .int (eI 0))]) [1, 0] rfl ?_
      exact bX6_begin_b92 a0 a1 oa0 oa1 _ _ _ h
    · replace h := (if_neg c_1).symm.trans h
      refine r_aload_n (pc := 77) (i := 0) dX6_begin_77 rfl 0 rfl ?_
      have o_2 := (wt_6_11 oa0).2
      refine r_getR (pc := 78) fg_6_18 rfl oa0 (wt_6_11 oa0).1 dX6_begin_78 ?_
      refine r_iload_n (pc := 81) (i := 2) dX6_begin_81 rfl 1 rfl ?_
      refine r_iconst (pc := 82) (v := 0) dX6_begin_82 (by decide +kernel) ?_
      obtain ⟨c_3, h⟩ := og h
      obtain ⟨M_4, hM_4, h⟩ := ob h
      refine r_iast (pc := 83) o_2 rfl c_3 rfl hM_4 dX6_begin_83 ?_
      obtain ⟨v_5, hv_5, h⟩ := ob h
      refine r_iinc (pc := 84) (y := v_5) (lv' := [(2, .int (eI v_5)), (0, .ref (gA G a0))]) dX6_begin_84 1 rfl (Option.some.inj hv_5) (Nat.le_of_ble_eq_true rfl) rfl ?_
      refine r_goto (pc := 87) (tgt := 71) dX6_begin_87 (by decide) ?_
      refine r_sub (lv' := [(0, .ref (gA G a0)), (2, .int (eI v_5))]) [1, 0] rfl ?_
      exact ih _ _ h
set_option maxHeartbeats 4000000 in
set_option maxRecDepth 100000 in
theorem bX6_begin_b0 {G : GG} (a0 : Nat) (a1 : Nat) (oa0 : OB L0 a0 6) (oa1 : OB L0 a1 5)  (M : MM) {res : MM}  (h : sX6_begin_b0 a0 a1 M = some res) : VV G xX6_begin (ZM G xX6_begin (none) L0 res) L0 M 0 0 0 [(0, .ref (gA G a0)), (1, .ref (gA G a1))] [] := by
  unfold sX6_begin_b0 at h
  refine r_aload_n (pc := 0) (i := 0) dX6_begin_0 rfl 0 rfl ?_
  refine r_iconst (pc := 1) (v := (-1)) dX6_begin_1 (by decide +kernel) ?_
  obtain ⟨M_1, hM_1, h⟩ := ob h
  refine r_putI (pc := 2) fg_6_44 rfl oa0 hM_1 rfl rfl dX6_begin_2 ?_
  refine r_aload_n (pc := 5) (i := 0) dX6_begin_5 rfl 0 rfl ?_
  refine r_iconst (pc := 6) (v := 0) dX6_begin_6 (by decide +kernel) ?_
  obtain ⟨M_2, hM_2, h⟩ := ob h
  refine r_putI (pc := 7) fg_6_47 rfl oa0 hM_2 rfl rfl dX6_begin_7 ?_
  refine r_aload_n (pc := 10) (i := 0) dX6_begin_10 rfl 0 rfl ?_
  refine r_iconst (pc := 11) (v := (-1)) dX6_begin_11 (by decide +kernel) ?_
  obtain ⟨M_3, hM_3, h⟩ := ob h
  refine r_putI (pc := 12) fg_6_50 rfl oa0 hM_3 rfl rfl dX6_begin_12 ?_
  refine r_aload_n (pc := 15) (i := 0) dX6_begin_15 rfl 0 rfl ?_
  refine r_iconst (pc := 16) (v := 0) dX6_begin_16 (by decide +kernel) ?_
  obtain ⟨M_4, hM_4, h⟩ := ob h
  refine r_putI (pc := 17) fg_6_53 rfl oa0 hM_4 rfl rfl dX6_begin_17 ?_
  refine r_aload_n (pc := 20) (i := 0) dX6_begin_20 rfl 0 rfl ?_
  refine r_iconst (pc := 21) (v := (-1)) dX6_begin_21 (by decide +kernel) ?_
  obtain ⟨M_5, hM_5, h⟩ := ob h
  refine r_putI (pc := 22) fg_6_56 rfl oa0 hM_5 rfl rfl dX6_begin_22 ?_
  refine r_aload_n (pc := 25) (i := 0) dX6_begin_25 rfl 0 rfl ?_
  refine r_iconst (pc := 26) (v := 0) dX6_begin_26 (by decide +kernel) ?_
  obtain ⟨M_6, hM_6, h⟩ := ob h
  refine r_putI (pc := 27) fg_6_59 rfl oa0 hM_6 (by decide +kernel) (by decide +kernel) dX6_begin_27 ?_
  refine r_aload_n (pc := 30) (i := 0) dX6_begin_30 rfl 0 rfl ?_
  refine r_iconst (pc := 31) (v := 0) dX6_begin_31 (by decide +kernel) ?_
  obtain ⟨M_7, hM_7, h⟩ := ob h
  refine r_putI (pc := 32) fg_6_63 rfl oa0 hM_7 rfl rfl dX6_begin_32 ?_
  refine r_aload_n (pc := 35) (i := 0) dX6_begin_35 rfl 0 rfl ?_
  refine r_iconst (pc := 36) (v := (-1)) dX6_begin_36 (by decide +kernel) ?_
  obtain ⟨M_8, hM_8, h⟩ := ob h
  refine r_putI (pc := 37) fg_6_66 rfl oa0 hM_8 rfl rfl dX6_begin_37 ?_
  refine r_aload_n (pc := 40) (i := 0) dX6_begin_40 rfl 0 rfl ?_
  refine r_iconst (pc := 41) (v := (-1)) dX6_begin_41 (by decide +kernel) ?_
  obtain ⟨M_9, hM_9, h⟩ := ob h
  refine r_putI (pc := 42) fg_6_69 rfl oa0 hM_9 rfl rfl dX6_begin_42 ?_
  refine r_aload_n (pc := 45) (i := 0) dX6_begin_45 rfl 0 rfl ?_
  refine r_iconst (pc := 46) (v := 0) dX6_begin_46 (by decide +kernel) ?_
  obtain ⟨M_10, hM_10, h⟩ := ob h
  refine r_putI (pc := 47) fg_6_72 rfl oa0 hM_10 rfl rfl dX6_begin_47 ?_
  refine r_aload_n (pc := 50) (i := 0) dX6_begin_50 rfl 0 rfl ?_
  refine r_iconst (pc := 51) (v := 0) dX6_begin_51 (by decide +kernel) ?_
  obtain ⟨M_11, hM_11, h⟩ := ob h
  refine r_putI (pc := 52) fg_6_75 rfl oa0 hM_11 rfl rfl dX6_begin_52 ?_
  refine r_aload_n (pc := 55) (i := 1) dX6_begin_55 rfl 1 rfl ?_
  have o_12 := (wt_5_2 oa1).2
  refine r_getR (pc := 56) fg_6_78 rfl oa1 (wt_5_2 oa1).1 dX6_begin_56 ?_
  refine r_iconst (pc := 59) (v := 0) dX6_begin_59 (by decide +kernel) ?_
  refine r_aload_n (pc := 60) (i := 0) dX6_begin_60 rfl 0 rfl ?_
  have o_13 := (wt_6_9 oa0).2
  refine r_getR (pc := 61) fg_6_9 rfl oa0 (wt_6_9 oa0).1 dX6_begin_61 ?_
  refine r_iconst (pc := 64) (v := 0) dX6_begin_64 (by decide +kernel) ?_
  refine r_iconst (pc := 65) (v := 5) dX6_begin_65 (by decide +kernel) ?_
  obtain ⟨M_14, hM_14, h⟩ := ob h
  refine r_acpI (pc := 66) ml_6_83 ⟨Nat.le_of_ble_eq_true rfl, Nat.le_of_ble_eq_true rfl⟩ o_12 o_13 wl_5 ⟨by decide, by decide, by decide⟩ hM_14 dX6_begin_66 ?_
  refine r_iconst (pc := 69) (v := 0) dX6_begin_69 (by decide +kernel) ?_
  refine r_istore_n (pc := 70) (i := 2) (lv' := [(2, .int (eI 0)), (0, .ref (gA G a0)), (1, .ref (gA G a1))]) dX6_begin_70 rfl (Nat.le_of_ble_eq_true rfl) rfl ?_
  refine r_sub (lv' := [(0, .ref (gA G a0)), (2, .int (eI 0))]) [1, 0] rfl ?_
  exact bX6_begin_b71 a0 a1 oa0 oa1 _ _ _ h
theorem kX6_begin {G : GG} (a0 : Nat) (a1 : Nat) (M : MM) {res : MM} (oa0 : OB L0 a0 6) (oa1 : OB L0 a1 5) (h : sX6_begin a0 a1 M = some res) : CO G xX6_begin [.ref (gA G a0), .ref (gA G a1)] L0 M (none) L0 res := CO_of (by decide +kernel) (Nat.le_of_ble_eq_true rfl) (bX6_begin_b0 a0 a1 oa0 oa1 M h)
abbrev xX6_goes : XX := (yX6_goes, cX6_goes, 3, (some .boolean), 1, 21, 0, 0)
theorem ck_X6_goes_108 : CKV xX6_goes 108 xX5_has 1 := ⟨⟨tb_i 924 (by decide +kernel) (by decide +kernel), tb_i 141 (by decide +kernel) (by decide +kernel), tb_i 881 (by decide +kernel) (by decide +kernel), ⟨by decide +kernel, by decide +kernel, by decide +kernel⟩, by decide, by decide⟩, tb_i 879 (by decide +kernel) (by decide +kernel), tb_i 880 (by decide +kernel) (by decide +kernel)⟩
def sX6_goes_b41 (a0 : Nat) (a1 : Nat) (x2 : Int)   (M : MM) : Option (Int × MM) := ((some (mU M a0 0 x2)).bind fun M_1 => ((some (mU M_1 a0 1 0)).bind fun M_2 => ((some (mU M_2 a0 2 (-1))).bind fun M_3 => (if 0 ≤ wI x2 ∧ wI x2 < 32 then ((some (mU M_3 a0 6 (oI (M_3 a0 6) (1 * 2 ^ (wI x2).toNat)))).bind fun M_5 => (some ((1, M_5)))) else none))))
def sX6_goes_b0 (a0 : Nat) (a1 : Nat) (x2 : Int)   (M : MM) : Option (Int × MM) := (if wI (sX5_has a1 x2 M) = 0 then (some ((0, M))) else (if 0 ≤ wI x2 ∧ wI x2 < 32 then (if wI (((M a0 6) % 4294967296 / 2 ^ (wI x2).toNat) % 2) = 1 then (some ((0, M))) else (if wI (M a0 0) = (-1) then (sX6_goes_b41 a0 a1 x2 M) else (if wI (M a1 12) ≤ wI (M a0 1) then (sX6_goes_b41 a0 a1 x2 M) else (some ((0, M)))))) else none))
def sX6_goes (a0 : Nat) (a1 : Nat) (x2 : Int) (M : MM) : Option (Int × MM) := sX6_goes_b0 a0 a1 x2 M
set_option maxHeartbeats 4000000 in
set_option maxRecDepth 100000 in
theorem bX6_goes_b41 {G : GG} (a0 : Nat) (a1 : Nat) (x2 : Int) (oa0 : OB L0 a0 6) (oa1 : OB L0 a1 5)  (M : MM) {res : (Int × MM)}  (h : sX6_goes_b41 a0 a1 x2 M = some res) : VV G xX6_goes (ZM G xX6_goes (some (.int (eI res.1))) L0 res.2) L0 M 0 0 41 [(0, .ref (gA G a0)), (2, .int (eI x2))] [] := by
  unfold sX6_goes_b41 at h
  refine r_aload_n (pc := 41) (i := 0) dX6_goes_41 rfl 0 rfl ?_
  refine r_iload_n (pc := 42) (i := 2) dX6_goes_42 rfl 1 rfl ?_
  obtain ⟨M_1, hM_1, h⟩ := ob h
  refine r_putI (pc := 43) fg_6_44 rfl oa0 hM_1 rfl rfl dX6_goes_43 ?_
  refine r_aload_n (pc := 46) (i := 0) dX6_goes_46 rfl 0 rfl ?_
  refine r_iconst (pc := 47) (v := 0) dX6_goes_47 (by decide +kernel) ?_
  obtain ⟨M_2, hM_2, h⟩ := ob h
  refine r_putI (pc := 48) fg_6_47 rfl oa0 hM_2 rfl rfl dX6_goes_48 ?_
  refine r_aload_n (pc := 51) (i := 0) dX6_goes_51 rfl 0 rfl ?_
  refine r_iconst (pc := 52) (v := (-1)) dX6_goes_52 (by decide +kernel) ?_
  obtain ⟨M_3, hM_3, h⟩ := ob h
  refine r_putI (pc := 53) fg_6_50 rfl oa0 hM_3 rfl rfl dX6_goes_53 ?_
  refine r_aload_n (pc := 56) (i := 0) dX6_goes_56 rfl 0 rfl ?_
  refine r_dup (pc := 57) dX6_goes_57 rfl ?_
  refine r_getI (pc := 58) fg_6_63 rfl oa0 dX6_goes_58 ?_
  refine r_iconst (pc := 61) (v := 1) dX6_goes_61 (by decide +kernel) ?_
  refine r_iload_n (pc := 62) (i := 2) dX6_goes_62 rfl 1 rfl ?_
  obtain ⟨c_4, h⟩ := og h
  refine r_ishl (pc := 63) rfl c_4 dX6_goes_63 ?_
  refine r_ior (pc := 64) dX6_goes_64 ?_
  obtain ⟨M_5, hM_5, h⟩ := ob h
  refine r_putI (pc := 65) fg_6_63 rfl oa0 hM_5 rfl rfl dX6_goes_65 ?_
  refine r_iconst (pc := 68) (v := 1) dX6_goes_68 (by decide +kernel) ?_
  cases h
  exact r_iret (pc := 69) rfl (zn_ok (Or.inr rfl)).1 (Nat.le_refl 0) (Nat.le_refl 0) dX6_goes_69
set_option maxHeartbeats 4000000 in
set_option maxRecDepth 100000 in
theorem bX6_goes_b0 {G : GG} (a0 : Nat) (a1 : Nat) (x2 : Int) (oa0 : OB L0 a0 6) (oa1 : OB L0 a1 5)  (M : MM) {res : (Int × MM)}  (h : sX6_goes_b0 a0 a1 x2 M = some res) : VV G xX6_goes (ZM G xX6_goes (some (.int (eI res.1))) L0 res.2) L0 M 0 0 0 [(0, .ref (gA G a0)), (1, .ref (gA G a1)), (2, .int (eI x2))] [] := by
  unfold sX6_goes_b0 at h
  refine r_aload_n (pc := 0) (i := 1) dX6_goes_0 rfl 1 rfl ?_
  refine r_iload_n (pc := 1) (i := 2) dX6_goes_1 rfl 2 rfl ?_
  refine r_cV (pc := 2) (Y := xX5_has) (As := [.int (eI x2)]) (rest := []) (v := (some (.int (eI (sX5_has a1 x2 M))))) (st1 := [.int (eI (sX5_has a1 x2 M))]) ck_X6_goes_108 (kX5_has a1 x2 M oa1) oa1 rfl rfl rfl rfl (Nat.le_of_ble_eq_true rfl) ⟨rfl, rfl⟩ rfl dX6_goes_2 ?_
  refine r_if_eq (pc := 5) (tgt := 39) dX6_goes_5 (by decide) rfl (fun c_1 => ?_) (fun c_1 => ?_)
  · replace h := (if_pos c_1).symm.trans h
    refine r_iconst (pc := 39) (v := 0) dX6_goes_39 (by decide +kernel) ?_
    cases h
    exact r_iret (pc := 40) rfl (zn_ok (Or.inl rfl)).1 (Nat.le_refl 0) (Nat.le_refl 0) dX6_goes_40
  · replace h := (if_neg c_1).symm.trans h
    refine r_aload_n (pc := 8) (i := 0) dX6_goes_8 rfl 0 rfl ?_
    refine r_getI (pc := 9) fg_6_63 rfl oa0 dX6_goes_9 ?_
    refine r_iload_n (pc := 12) (i := 2) dX6_goes_12 rfl 2 rfl ?_
    obtain ⟨c_2, h⟩ := og h
    refine r_iushr (pc := 13) rfl c_2 dX6_goes_13 ?_
    refine r_iconst (pc := 14) (v := 1) dX6_goes_14 (by decide +kernel) ?_
    refine r_iand (pc := 15) 1 (by decide) wl_1 rfl dX6_goes_15 ?_
    refine r_iconst (pc := 16) (v := 1) dX6_goes_16 (by decide +kernel) ?_
    refine r_icmp_eq (pc := 17) (tgt := 39) dX6_goes_17 (by decide) rfl wl_1 (fun c_3 => ?_) (fun c_3 => ?_)
    · replace h := (if_pos c_3).symm.trans h
      refine r_iconst (pc := 39) (v := 0) dX6_goes_39 (by decide +kernel) ?_
      cases h
      exact r_iret (pc := 40) rfl (zn_ok (Or.inl rfl)).1 (Nat.le_refl 0) (Nat.le_refl 0) dX6_goes_40
    · replace h := (if_neg c_3).symm.trans h
      refine r_aload_n (pc := 20) (i := 0) dX6_goes_20 rfl 0 rfl ?_
      refine r_getI (pc := 21) fg_6_44 rfl oa0 dX6_goes_21 ?_
      refine r_iconst (pc := 24) (v := (-1)) dX6_goes_24 (by decide +kernel) ?_
      refine r_icmp_eq (pc := 25) (tgt := 41) dX6_goes_25 (by decide) rfl wl_m1 (fun c_4 => ?_) (fun c_4 => ?_)
      · replace h := (if_pos c_4).symm.trans h
        refine r_sub (lv' := [(0, .ref (gA G a0)), (2, .int (eI x2))]) [0, 2] rfl ?_
        exact bX6_goes_b41 a0 a1 x2 oa0 oa1 _ h
      · replace h := (if_neg c_4).symm.trans h
        refine r_aload_n (pc := 28) (i := 0) dX6_goes_28 rfl 0 rfl ?_
        refine r_getI (pc := 29) fg_6_47 rfl oa0 dX6_goes_29 ?_
        refine r_aload_n (pc := 32) (i := 1) dX6_goes_32 rfl 1 rfl ?_
        refine r_getI (pc := 33) fg_6_111 rfl oa1 dX6_goes_33 ?_
        refine r_icmp_ge (pc := 36) (tgt := 41) dX6_goes_36 (by decide) rfl rfl (fun c_5 => ?_) (fun c_5 => ?_)
        · replace h := (if_pos c_5).symm.trans h
          refine r_sub (lv' := [(0, .ref (gA G a0)), (2, .int (eI x2))]) [0, 2] rfl ?_
          exact bX6_goes_b41 a0 a1 x2 oa0 oa1 _ h
        · replace h := (if_neg c_5).symm.trans h
          refine r_iconst (pc := 39) (v := 0) dX6_goes_39 (by decide +kernel) ?_
          cases h
          exact r_iret (pc := 40) rfl (zn_ok (Or.inl rfl)).1 (Nat.le_refl 0) (Nat.le_refl 0) dX6_goes_40
theorem kX6_goes {G : GG} (a0 : Nat) (a1 : Nat) (x2 : Int) (M : MM) {res : (Int × MM)} (oa0 : OB L0 a0 6) (oa1 : OB L0 a1 5) (h : sX6_goes a0 a1 x2 M = some res) : CO G xX6_goes [.ref (gA G a0), .ref (gA G a1), .int (eI x2)] L0 M (some (.int (eI res.1))) L0 res.2 := CO_of (by decide +kernel) (Nat.le_of_ble_eq_true rfl) (bX6_goes_b0 a0 a1 x2 oa0 oa1 M h)
abbrev xX6_faces : XX := (yX6_faces, cX6_faces, 2, (some .boolean), 0, 0, 0, 0)
def sX6_faces_b0 (a0 : Nat) (x1 : Int)   (M : MM) : Option (Int × MM) := (if wI (M a0 0) = (-1) then (some ((0, M))) else (if wI (M a0 1) ≤ 0 then ((some (mU M a0 2 x1)).bind fun M_3 => (some ((1, M_3)))) else (some ((0, M)))))
def sX6_faces (a0 : Nat) (x1 : Int) (M : MM) : Option (Int × MM) := sX6_faces_b0 a0 x1 M
set_option maxHeartbeats 4000000 in
set_option maxRecDepth 100000 in
theorem bX6_faces_b0 {G : GG} (a0 : Nat) (x1 : Int) (oa0 : OB L0 a0 6)  (M : MM) {res : (Int × MM)}  (h : sX6_faces_b0 a0 x1 M = some res) : VV G xX6_faces (ZM G xX6_faces (some (.int (eI res.1))) L0 res.2) L0 M 0 0 0 [(0, .ref (gA G a0)), (1, .int (eI x1))] [] := by
  unfold sX6_faces_b0 at h
  refine r_aload_n (pc := 0) (i := 0) dX6_faces_0 rfl 0 rfl ?_
  refine r_getI (pc := 1) fg_6_44 rfl oa0 dX6_faces_1 ?_
  refine r_iconst (pc := 4) (v := (-1)) dX6_faces_4 (by decide +kernel) ?_
  refine r_icmp_eq (pc := 5) (tgt := 15) dX6_faces_5 (by decide) rfl wl_m1 (fun c_1 => ?_) (fun c_1 => ?_)
  · replace h := (if_pos c_1).symm.trans h
    refine r_iconst (pc := 15) (v := 0) dX6_faces_15 (by decide +kernel) ?_
    cases h
    exact r_iret (pc := 16) rfl (zn_ok (Or.inl rfl)).1 (Nat.le_refl 0) (Nat.le_refl 0) dX6_faces_16
  · replace h := (if_neg c_1).symm.trans h
    refine r_aload_n (pc := 8) (i := 0) dX6_faces_8 rfl 0 rfl ?_
    refine r_getI (pc := 9) fg_6_47 rfl oa0 dX6_faces_9 ?_
    refine r_if_le (pc := 12) (tgt := 17) dX6_faces_12 (by decide) rfl (fun c_2 => ?_) (fun c_2 => ?_)
    · replace h := (if_pos c_2).symm.trans h
      refine r_aload_n (pc := 17) (i := 0) dX6_faces_17 rfl 0 rfl ?_
      refine r_iload_n (pc := 18) (i := 1) dX6_faces_18 rfl 1 rfl ?_
      obtain ⟨M_3, hM_3, h⟩ := ob h
      refine r_putI (pc := 19) fg_6_50 rfl oa0 hM_3 rfl rfl dX6_faces_19 ?_
      refine r_iconst (pc := 22) (v := 1) dX6_faces_22 (by decide +kernel) ?_
      cases h
      exact r_iret (pc := 23) rfl (zn_ok (Or.inr rfl)).1 (Nat.le_refl 0) (Nat.le_refl 0) dX6_faces_23
    · replace h := (if_neg c_2).symm.trans h
      refine r_iconst (pc := 15) (v := 0) dX6_faces_15 (by decide +kernel) ?_
      cases h
      exact r_iret (pc := 16) rfl (zn_ok (Or.inl rfl)).1 (Nat.le_refl 0) (Nat.le_refl 0) dX6_faces_16
theorem kX6_faces {G : GG} (a0 : Nat) (x1 : Int) (M : MM) {res : (Int × MM)} (oa0 : OB L0 a0 6) (h : sX6_faces a0 x1 M = some res) : CO G xX6_faces [.ref (gA G a0), .int (eI x1)] L0 M (some (.int (eI res.1))) L0 res.2 := CO_of (by decide +kernel) (Nat.le_of_ble_eq_true rfl) (bX6_faces_b0 a0 x1 oa0 M h)
abbrev xX6_firstPartOff : XX := (yX6_firstPartOff, cX6_firstPartOff, 7, (some .int), 2, 45, 0, 0)
theorem ck_X6_firstPartOff_140 : CKN xX6_firstPartOff 140 xX11_farOf 2 "PaperDonkey" := ⟨tn_i 940 (by decide +kernel) rfl, tb_i 139 (by decide +kernel) (by decide +kernel), tb_i 942 (by decide +kernel) (by decide +kernel), ⟨by decide +kernel, by decide +kernel, by decide +kernel⟩, by decide, by decide, tb_i 941 (by decide +kernel) (by decide +kernel)⟩
def sX6_firstPartOff_b60 (a0 : Nat) (a1 : Nat) (x2 : Int) (x3 : Int) (x4 : Int) (M : MM) (K3 : Int → Option Int) (x5 : Int) : Option Int := ((some (x5 + 1)).bind fun v_1 => (K3 v_1))
def sX6_firstPartOff_b3 (a0 : Nat) (a1 : Nat) (x2 : Int) (x3 : Int) (x4 : Int) (M : MM)  : Nat → Int → Option Int
  | 0, _ => none
  | n + 1, x5 => (if wI (M a1 0) ≤ wI x5 then (some ((-1))) else (if 0 ≤ wI x5 ∧ wI x5 < 5 then ((some (if 0 ≤ wI (((M (gR a1 1) (wI x5).toNat) + (M a0 3)) - x3) then wI (((M (gR a1 1) (wI x5).toNat) + (M a0 3)) - x3) else -(wI (((M (gR a1 1) (wI x5).toNat) + (M a0 3)) - x3)))).bind fun v_4 => (if 0 ≤ wI x5 ∧ wI x5 < 5 then (if wI (M (gR a0 9) (wI x5).toNat) ≤ 0 then (sX6_firstPartOff_b60 a0 a1 x2 x3 x4 M (fun x5 => sX6_firstPartOff_b3 a0 a1 x2 x3 x4 M n x5) x5) else (if wI ((sX11_farOf (M a0 2) x2) + v_4) = wI x4 then (some (x5)) else (sX6_firstPartOff_b60 a0 a1 x2 x3 x4 M (fun x5 => sX6_firstPartOff_b3 a0 a1 x2 x3 x4 M n x5) x5))) else none)) else none))
def sX6_firstPartOff_b0 (a0 : Nat) (a1 : Nat) (x2 : Int) (x3 : Int) (x4 : Int) (M : MM)   : Option Int := (sX6_firstPartOff_b3 a0 a1 x2 x3 x4 M FU 0)
def sX6_firstPartOff (a0 : Nat) (a1 : Nat) (x2 : Int) (x3 : Int) (x4 : Int) (M : MM) : Option Int := sX6_firstPartOff_b0 a0 a1 x2 x3 x4 M
set_option maxHeartbeats 4000000 in
set_option maxRecDepth 100000 in
theorem bX6_firstPartOff_b60 {G : GG} (a0 : Nat) (a1 : Nat) (x2 : Int) (x3 : Int) (x4 : Int) (M : MM) (oa0 : OB L0 a0 6) (oa1 : OB L0 a1 5) {K3 : Int → Option Int} (x5 : Int) {res : Int} (hK3 : ∀ (x5 : Int), K3 x5 = some res → VV G xX6_firstPartOff (ZM G xX6_firstPartOff (some (.int (eI res))) L0 M) L0 M 0 0 3 [(0, .ref (gA G a0)), (1, .ref (gA G a1)), (2, .int (eI x2)), (3, .int (eI x3)), (4, .int (eI x4)), (5, .int (eI x5))] [])  (h : sX6_firstPartOff_b60 a0 a1 x2 x3 x4 M K3 x5 = some res) : VV G xX6_firstPartOff (ZM G xX6_firstPartOff (some (.int (eI res))) L0 M) L0 M 0 0 60 [(0, .ref (gA G a0)), (1, .ref (gA G a1)), (2, .int (eI x2)), (3, .int (eI x3)), (4, .int (eI x4)), (5, .int (eI x5))] [] := by
  unfold sX6_firstPartOff_b60 at h
  obtain ⟨v_1, hv_1, h⟩ := ob h
  refine r_iinc (pc := 60) (y := v_1) (lv' := [(5, .int (eI v_1)), (0, .ref (gA G a0)), (1, .ref (gA G a1)), (2, .int (eI x2)), (3, .int (eI x3)), (4, .int (eI x4))]) dX6_firstPartOff_60 5 rfl (Option.some.inj hv_1) (Nat.le_of_ble_eq_true rfl) rfl ?_
  refine r_goto (pc := 63) (tgt := 3) dX6_firstPartOff_63 (by decide) ?_
  refine r_sub (lv' := [(0, .ref (gA G a0)), (1, .ref (gA G a1)), (2, .int (eI x2)), (3, .int (eI x3)), (4, .int (eI x4)), (5, .int (eI v_1))]) [1, 2, 3, 4, 5, 0] rfl ?_
  exact hK3 _ h
set_option maxHeartbeats 4000000 in
set_option maxRecDepth 100000 in
theorem bX6_firstPartOff_b3 {G : GG} (a0 : Nat) (a1 : Nat) (x2 : Int) (x3 : Int) (x4 : Int) (M : MM) (oa0 : OB L0 a0 6) (oa1 : OB L0 a1 5) {res : Int} : ∀ (n : Nat) (x5 : Int)  (h : sX6_firstPartOff_b3 a0 a1 x2 x3 x4 M n x5 = some res), VV G xX6_firstPartOff (ZM G xX6_firstPartOff (some (.int (eI res))) L0 M) L0 M 0 0 3 [(0, .ref (gA G a0)), (1, .ref (gA G a1)), (2, .int (eI x2)), (3, .int (eI x3)), (4, .int (eI x4)), (5, .int (eI x5))] [] := by
  intro n
  induction n with
  | zero =>
    intro x5 h
    rw [sX6_firstPartOff_b3] at h
    cases h
  | succ n ih =>
    intro x5 h
    rw [sX6_firstPartOff_b3] at h
    refine r_iload (pc := 3) dX6_firstPartOff_3 5 rfl ?_
    refine r_aload_n (pc := 5) (i := 1) dX6_firstPartOff_5 rfl 1 rfl ?_
    refine r_getI (pc := 6) fg_6_128 rfl oa1 dX6_firstPartOff_6 ?_
    refine r_icmp_ge (pc := 9) (tgt := 66) dX6_firstPartOff_9 (by decide) rfl rfl (fun c_1 => ?_) (fun c_1 => ?_)
    · replace h := (if_pos c_1).symm.trans h
      refine r_iconst (pc := 66) (v := (-1)) dX6_firstPartOff_66 (by decide +kernel) ?_
      cases h
      exact r_iret (pc := 67) rfl rfl (Nat.le_refl 0) (Nat.le_refl 0) dX6_firstPartOff_67
    · replace h := (if_neg c_1).symm.trans h
      refine r_aload_n (pc := 12) (i := 1) dX6_firstPartOff_12 rfl 1 rfl ?_
      have o_2 := (wt_5_1 oa1).2
      refine r_getR (pc := 13) fg_6_131 rfl oa1 (wt_5_1 oa1).1 dX6_firstPartOff_13 ?_
      refine r_iload (pc := 16) dX6_firstPartOff_16 5 rfl ?_
      obtain ⟨c_3, h⟩ := og h
      refine r_iald (pc := 18) o_2 rfl c_3 rfl dX6_firstPartOff_18 ?_
      refine r_aload_n (pc := 19) (i := 0) dX6_firstPartOff_19 rfl 0 rfl ?_
      refine r_getI (pc := 20) fg_6_53 rfl oa0 dX6_firstPartOff_20 ?_
      refine r_iadd (pc := 23) dX6_firstPartOff_23 ?_
      refine r_iload_n (pc := 24) (i := 3) dX6_firstPartOff_24 rfl 3 rfl ?_
      refine r_isub (pc := 25) dX6_firstPartOff_25 ?_
      refine r_mabs (pc := 26) ml_6_134 ⟨Nat.le_of_ble_eq_true rfl, Nat.le_of_ble_eq_true rfl, Nat.le_of_ble_eq_true rfl, Nat.le_of_ble_eq_true rfl⟩ rfl dX6_firstPartOff_26 ?_
      obtain ⟨v_4, hv_4, h⟩ := ob h
      refine r_nmI (pc := 29) hv_4 ?_
      refine r_istore (pc := 29) (lv' := [(6, .int (eI v_4)), (0, .ref (gA G a0)), (1, .ref (gA G a1)), (2, .int (eI x2)), (3, .int (eI x3)), (4, .int (eI x4)), (5, .int (eI x5))]) dX6_firstPartOff_29 (Nat.le_of_ble_eq_true rfl) rfl ?_
      refine r_aload_n (pc := 31) (i := 0) dX6_firstPartOff_31 rfl 1 rfl ?_
      have o_5 := (wt_6_9 oa0).2
      refine r_getR (pc := 32) fg_6_9 rfl oa0 (wt_6_9 oa0).1 dX6_firstPartOff_32 ?_
      refine r_iload (pc := 35) dX6_firstPartOff_35 6 rfl ?_
      obtain ⟨c_6, h⟩ := og h
      refine r_iald (pc := 37) o_5 rfl c_6 rfl dX6_firstPartOff_37 ?_
      refine r_if_le (pc := 38) (tgt := 60) dX6_firstPartOff_38 (by decide) rfl (fun c_7 => ?_) (fun c_7 => ?_)
      · replace h := (if_pos c_7).symm.trans h
        refine r_sub (lv' := [(0, .ref (gA G a0)), (1, .ref (gA G a1)), (2, .int (eI x2)), (3, .int (eI x3)), (4, .int (eI x4)), (5, .int (eI x5))]) [1, 2, 3, 4, 5, 6] rfl ?_
        exact bX6_firstPartOff_b60 a0 a1 x2 x3 x4 M oa0 oa1 _ (fun v0 v1 => ih v0 v1) h
      · replace h := (if_neg c_7).symm.trans h
        refine r_aload_n (pc := 41) (i := 0) dX6_firstPartOff_41 rfl 1 rfl ?_
        refine r_getI (pc := 42) fg_6_50 rfl oa0 dX6_firstPartOff_42 ?_
        refine r_iload_n (pc := 45) (i := 2) dX6_firstPartOff_45 rfl 3 rfl ?_
        refine r_cN (pc := 46) (Y := xX11_farOf) (As := [.int (eI (M a0 2)), .int (eI x2)]) (rest := []) (v := (some (.int (eI (sX11_farOf (M a0 2) x2))))) (st1 := [.int (eI (sX11_farOf (M a0 2) x2))]) ck_X6_firstPartOff_140 (kX11_farOf (M a0 2) x2 M ) rfl rfl (Nat.le_of_ble_eq_true rfl) ⟨rfl, rfl⟩ rfl dX6_firstPartOff_46 ?_
        refine r_iload (pc := 49) dX6_firstPartOff_49 0 rfl ?_
        refine r_iadd (pc := 51) dX6_firstPartOff_51 ?_
        refine r_iload (pc := 52) dX6_firstPartOff_52 5 rfl ?_
        refine r_icmp_ne (pc := 54) (tgt := 60) dX6_firstPartOff_54 (by decide) rfl rfl (fun c_8 => ?_) (fun c_8 => ?_)
        · replace h := (if_neg c_8).symm.trans h
          refine r_sub (lv' := [(0, .ref (gA G a0)), (1, .ref (gA G a1)), (2, .int (eI x2)), (3, .int (eI x3)), (4, .int (eI x4)), (5, .int (eI x5))]) [1, 2, 3, 4, 5, 6] rfl ?_
          exact bX6_firstPartOff_b60 a0 a1 x2 x3 x4 M oa0 oa1 _ (fun v0 v1 => ih v0 v1) h
        · replace h := (if_pos c_8).symm.trans h
          refine r_iload (pc := 57) dX6_firstPartOff_57 6 rfl ?_
          cases h
          exact r_iret (pc := 59) rfl rfl (Nat.le_refl 0) (Nat.le_refl 0) dX6_firstPartOff_59
set_option maxHeartbeats 4000000 in
set_option maxRecDepth 100000 in
theorem bX6_firstPartOff_b0 {G : GG} (a0 : Nat) (a1 : Nat) (x2 : Int) (x3 : Int) (x4 : Int) (M : MM) (oa0 : OB L0 a0 6) (oa1 : OB L0 a1 5)  {res : Int}  (h : sX6_firstPartOff_b0 a0 a1 x2 x3 x4 M = some res) : VV G xX6_firstPartOff (ZM G xX6_firstPartOff (some (.int (eI res))) L0 M) L0 M 0 0 0 [(0, .ref (gA G a0)), (1, .ref (gA G a1)), (2, .int (eI x2)), (3, .int (eI x3)), (4, .int (eI x4))] [] := by
  unfold sX6_firstPartOff_b0 at h
  refine r_iconst (pc := 0) (v := 0) dX6_firstPartOff_0 (by decide +kernel) ?_
  refine r_istore (pc := 1) (lv' := [(5, .int (eI 0)), (0, .ref (gA G a0)), (1, .ref (gA G a1)), (2, .int (eI x2)), (3, .int (eI x3)), (4, .int (eI x4))]) dX6_firstPartOff_1 (Nat.le_of_ble_eq_true rfl) rfl ?_
  refine r_sub (lv' := [(0, .ref (gA G a0)), (1, .ref (gA G a1)), (2, .int (eI x2)), (3, .int (eI x3)), (4, .int (eI x4)), (5, .int (eI 0))]) [1, 2, 3, 4, 5, 0] rfl ?_
  exact bX6_firstPartOff_b3 a0 a1 x2 x3 x4 M oa0 oa1 _ _ h
theorem kX6_firstPartOff {G : GG} (a0 : Nat) (a1 : Nat) (x2 : Int) (x3 : Int) (x4 : Int) (M : MM) {res : Int} (oa0 : OB L0 a0 6) (oa1 : OB L0 a1 5) (h : sX6_firstPartOff a0 a1 x2 x3 x4 M = some res) : CO G xX6_firstPartOff [.ref (gA G a0), .ref (gA G a1), .int (eI x2), .int (eI x3), .int (eI x4)] L0 M (some (.int (eI res))) L0 M := CO_of (by decide +kernel) (Nat.le_of_ble_eq_true rfl) (bX6_firstPartOff_b0 a0 a1 x2 x3 x4 M oa0 oa1 h)
abbrev xX6_takes : XX := (yX6_takes, cX6_takes, 4, none, 1, 23, 0, 0)
def sX6_takes_b0 (a0 : Nat) (x1 : Int) (x2 : Int)   (M : MM) : Option MM := (if wI x1 < 0 then (some (M)) else (if 5 ≤ wI x1 then (some (M)) else (if wI (M a0 0) < 0 then (some (M)) else (if wI (M a0 0) < 8 then (if 0 ≤ wI x1 ∧ wI x1 < 5 then ((some (min (wI (M (gR a0 9) (wI x1).toNat)) (wI x2))).bind fun v_7 => (if 0 ≤ wI x1 ∧ wI x1 < 5 then (if 0 ≤ wI x1 ∧ wI x1 < 5 then ((some (mU M (gR a0 9) (wI x1).toNat ((M (gR a0 9) (wI x1).toNat) - v_7))).bind fun M_11 => (if 0 ≤ wI (M_11 a0 0) ∧ wI (M_11 a0 0) < 8 then (if 0 ≤ wI (M_11 a0 0) ∧ wI (M_11 a0 0) < 8 then ((some (mU M_11 (gR a0 11) (wI (M_11 a0 0)).toNat ((M_11 (gR a0 11) (wI (M_11 a0 0)).toNat) + v_7))).bind fun M_15 => (if wI x1 = 0 then ((some (mU M_15 a0 12 ((M_15 a0 12) + x2))).bind fun M_17 => ((some (mU M_17 a0 13 x2)).bind fun M_18 => (if wI (M_18 (gR a0 9) 0) = 0 then ((some (mU M_18 a0 4 (M_18 a0 0))).bind fun M_21 => (some (M_21))) else (some (M_18))))) else (some (M_15)))) else none) else none)) else none) else none)) else none) else (some (M))))))
def sX6_takes (a0 : Nat) (x1 : Int) (x2 : Int) (M : MM) : Option MM := sX6_takes_b0 a0 x1 x2 M
set_option maxHeartbeats 4000000 in
set_option maxRecDepth 100000 in
theorem bX6_takes_b0 {G : GG} (a0 : Nat) (x1 : Int) (x2 : Int) (oa0 : OB L0 a0 6)  (M : MM) {res : MM}  (h : sX6_takes_b0 a0 x1 x2 M = some res) : VV G xX6_takes (ZM G xX6_takes (none) L0 res) L0 M 0 0 0 [(0, .ref (gA G a0)), (1, .int (eI x1)), (2, .int (eI x2))] [] := by
  unfold sX6_takes_b0 at h
  refine r_iload_n (pc := 0) (i := 1) dX6_takes_0 rfl 1 rfl ?_
  refine r_if_lt (pc := 1) (tgt := 25) dX6_takes_1 (by decide) rfl (fun c_1 => ?_) (fun c_1 => ?_)
  · replace h := (if_pos c_1).symm.trans h
    cases h
    exact r_vret (pc := 25) rfl (Nat.le_refl 0) (Nat.le_refl 0) dX6_takes_25
  · replace h := (if_neg c_1).symm.trans h
    refine r_iload_n (pc := 4) (i := 1) dX6_takes_4 rfl 1 rfl ?_
    refine r_iconst (pc := 5) (v := 5) dX6_takes_5 (by decide +kernel) ?_
    refine r_icmp_ge (pc := 6) (tgt := 25) dX6_takes_6 (by decide) rfl wl_5 (fun c_2 => ?_) (fun c_2 => ?_)
    · replace h := (if_pos c_2).symm.trans h
      cases h
      exact r_vret (pc := 25) rfl (Nat.le_refl 0) (Nat.le_refl 0) dX6_takes_25
    · replace h := (if_neg c_2).symm.trans h
      refine r_aload_n (pc := 9) (i := 0) dX6_takes_9 rfl 0 rfl ?_
      refine r_getI (pc := 10) fg_6_44 rfl oa0 dX6_takes_10 ?_
      refine r_if_lt (pc := 13) (tgt := 25) dX6_takes_13 (by decide) rfl (fun c_3 => ?_) (fun c_3 => ?_)
      · replace h := (if_pos c_3).symm.trans h
        cases h
        exact r_vret (pc := 25) rfl (Nat.le_refl 0) (Nat.le_refl 0) dX6_takes_25
      · replace h := (if_neg c_3).symm.trans h
        refine r_aload_n (pc := 16) (i := 0) dX6_takes_16 rfl 0 rfl ?_
        refine r_getI (pc := 17) fg_6_44 rfl oa0 dX6_takes_17 ?_
        refine r_bipush (pc := 20) (v := 8) dX6_takes_20 (by decide +kernel) ?_
        refine r_icmp_lt (pc := 22) (tgt := 26) dX6_takes_22 (by decide) rfl wl_8 (fun c_4 => ?_) (fun c_4 => ?_)
        · replace h := (if_pos c_4).symm.trans h
          refine r_aload_n (pc := 26) (i := 0) dX6_takes_26 rfl 0 rfl ?_
          have o_5 := (wt_6_9 oa0).2
          refine r_getR (pc := 27) fg_6_9 rfl oa0 (wt_6_9 oa0).1 dX6_takes_27 ?_
          refine r_iload_n (pc := 30) (i := 1) dX6_takes_30 rfl 1 rfl ?_
          obtain ⟨c_6, h⟩ := og h
          refine r_iald (pc := 31) o_5 rfl c_6 rfl dX6_takes_31 ?_
          refine r_iload_n (pc := 32) (i := 2) dX6_takes_32 rfl 2 rfl ?_
          refine r_mmin (pc := 33) ml_6_144 ⟨Nat.le_of_ble_eq_true rfl, Nat.le_of_ble_eq_true rfl, Nat.le_of_ble_eq_true rfl, Nat.le_of_ble_eq_true rfl⟩ rfl rfl dX6_takes_33 ?_
          obtain ⟨v_7, hv_7, h⟩ := ob h
          refine r_nmI (pc := 36) hv_7 ?_
          refine r_istore_n (pc := 36) (i := 3) (lv' := [(3, .int (eI v_7)), (0, .ref (gA G a0)), (1, .int (eI x1)), (2, .int (eI x2))]) dX6_takes_36 rfl (Nat.le_of_ble_eq_true rfl) rfl ?_
          refine r_aload_n (pc := 37) (i := 0) dX6_takes_37 rfl 1 rfl ?_
          have o_8 := (wt_6_9 oa0).2
          refine r_getR (pc := 38) fg_6_9 rfl oa0 (wt_6_9 oa0).1 dX6_takes_38 ?_
          refine r_iload_n (pc := 41) (i := 1) dX6_takes_41 rfl 2 rfl ?_
          refine r_dup2 (pc := 42) dX6_takes_42 rfl rfl ?_
          obtain ⟨c_9, h⟩ := og h
          refine r_iald (pc := 43) o_8 rfl c_9 rfl dX6_takes_43 ?_
          refine r_iload_n (pc := 44) (i := 3) dX6_takes_44 rfl 0 rfl ?_
          refine r_isub (pc := 45) dX6_takes_45 ?_
          obtain ⟨c_10, h⟩ := og h
          obtain ⟨M_11, hM_11, h⟩ := ob h
          refine r_iast (pc := 46) o_8 rfl c_10 rfl hM_11 dX6_takes_46 ?_
          refine r_aload_n (pc := 47) (i := 0) dX6_takes_47 rfl 1 rfl ?_
          have o_12 := (wt_6_11 oa0).2
          refine r_getR (pc := 48) fg_6_18 rfl oa0 (wt_6_11 oa0).1 dX6_takes_48 ?_
          refine r_aload_n (pc := 51) (i := 0) dX6_takes_51 rfl 1 rfl ?_
          refine r_getI (pc := 52) fg_6_44 rfl oa0 dX6_takes_52 ?_
          refine r_dup2 (pc := 55) dX6_takes_55 rfl rfl ?_
          obtain ⟨c_13, h⟩ := og h
          refine r_iald (pc := 56) o_12 rfl c_13 rfl dX6_takes_56 ?_
          refine r_iload_n (pc := 57) (i := 3) dX6_takes_57 rfl 0 rfl ?_
          refine r_iadd (pc := 58) dX6_takes_58 ?_
          obtain ⟨c_14, h⟩ := og h
          obtain ⟨M_15, hM_15, h⟩ := ob h
          refine r_iast (pc := 59) o_12 rfl c_14 rfl hM_15 dX6_takes_59 ?_
          refine r_iload_n (pc := 60) (i := 1) dX6_takes_60 rfl 2 rfl ?_
          refine r_if_ne (pc := 61) (tgt := 96) dX6_takes_61 (by decide) rfl (fun c_16 => ?_) (fun c_16 => ?_)
          · replace h := (if_neg c_16).symm.trans h
            cases h
            exact r_vret (pc := 96) rfl (Nat.le_refl 0) (Nat.le_refl 0) dX6_takes_96
          · replace h := (if_pos c_16).symm.trans h
            refine r_aload_n (pc := 64) (i := 0) dX6_takes_64 rfl 1 rfl ?_
            refine r_dup (pc := 65) dX6_takes_65 rfl ?_
            refine r_getI (pc := 66) fg_6_72 rfl oa0 dX6_takes_66 ?_
            refine r_iload_n (pc := 69) (i := 2) dX6_takes_69 rfl 3 rfl ?_
            refine r_iadd (pc := 70) dX6_takes_70 ?_
            obtain ⟨M_17, hM_17, h⟩ := ob h
            refine r_putI (pc := 71) fg_6_72 rfl oa0 hM_17 rfl rfl dX6_takes_71 ?_
            refine r_aload_n (pc := 74) (i := 0) dX6_takes_74 rfl 1 rfl ?_
            refine r_iload_n (pc := 75) (i := 2) dX6_takes_75 rfl 3 rfl ?_
            obtain ⟨M_18, hM_18, h⟩ := ob h
            refine r_putI (pc := 76) fg_6_75 rfl oa0 hM_18 rfl rfl dX6_takes_76 ?_
            refine r_aload_n (pc := 79) (i := 0) dX6_takes_79 rfl 1 rfl ?_
            have o_19 := (wt_6_9 oa0).2
            refine r_getR (pc := 80) fg_6_9 rfl oa0 (wt_6_9 oa0).1 dX6_takes_80 ?_
            refine r_iconst (pc := 83) (v := 0) dX6_takes_83 (by decide +kernel) ?_
            refine r_iald (pc := 84) o_19 wl_0 ⟨by decide, by decide⟩ rfl dX6_takes_84 ?_
            refine r_if_ne (pc := 85) (tgt := 96) dX6_takes_85 (by decide) rfl (fun c_20 => ?_) (fun c_20 => ?_)
            · replace h := (if_neg c_20).symm.trans h
              cases h
              exact r_vret (pc := 96) rfl (Nat.le_refl 0) (Nat.le_refl 0) dX6_takes_96
            · replace h := (if_pos c_20).symm.trans h
              refine r_aload_n (pc := 88) (i := 0) dX6_takes_88 rfl 1 rfl ?_
              refine r_aload_n (pc := 89) (i := 0) dX6_takes_89 rfl 1 rfl ?_
              refine r_getI (pc := 90) fg_6_44 rfl oa0 dX6_takes_90 ?_
              obtain ⟨M_21, hM_21, h⟩ := ob h
              refine r_putI (pc := 93) fg_6_56 rfl oa0 hM_21 rfl rfl dX6_takes_93 ?_
              cases h
              exact r_vret (pc := 96) rfl (Nat.le_refl 0) (Nat.le_refl 0) dX6_takes_96
        · replace h := (if_neg c_4).symm.trans h
          cases h
          exact r_vret (pc := 25) rfl (Nat.le_refl 0) (Nat.le_refl 0) dX6_takes_25
theorem kX6_takes {G : GG} (a0 : Nat) (x1 : Int) (x2 : Int) (M : MM) {res : MM} (oa0 : OB L0 a0 6) (h : sX6_takes a0 x1 x2 M = some res) : CO G xX6_takes [.ref (gA G a0), .int (eI x1), .int (eI x2)] L0 M (none) L0 res := CO_of (by decide +kernel) (Nat.le_of_ble_eq_true rfl) (bX6_takes_b0 a0 x1 x2 oa0 M h)
abbrev xX6_strikes : XX := (yX6_strikes, cX6_strikes, 4, (some .boolean), 3, 71, 0, 0)
theorem ck_X6_strikes_108 : CKV xX6_strikes 108 xX5_has 1 := ⟨⟨tb_i 924 (by decide +kernel) (by decide +kernel), tb_i 141 (by decide +kernel) (by decide +kernel), tb_i 881 (by decide +kernel) (by decide +kernel), ⟨by decide +kernel, by decide +kernel, by decide +kernel⟩, by decide, by decide⟩, tb_i 879 (by decide +kernel) (by decide +kernel), tb_i 880 (by decide +kernel) (by decide +kernel)⟩
theorem ck_X6_strikes_117 : CKV xX6_strikes 117 xX6_firstPartOff 4 := ⟨⟨tb_i 933 (by decide +kernel) (by decide +kernel), tb_i 147 (by decide +kernel) (by decide +kernel), tb_i 936 (by decide +kernel) (by decide +kernel), ⟨by decide +kernel, by decide +kernel, by decide +kernel⟩, by decide, by decide⟩, tb_i 935 (by decide +kernel) (by decide +kernel), tb_i 20 (by decide +kernel) (by decide +kernel)⟩
theorem ck_X6_strikes_124 : CKV xX6_strikes 124 xX6_takes 2 := ⟨⟨tb_i 944 (by decide +kernel) (by decide +kernel), tb_i 147 (by decide +kernel) (by decide +kernel), tb_i 947 (by decide +kernel) (by decide +kernel), ⟨by decide +kernel, by decide +kernel, by decide +kernel⟩, by decide, by decide⟩, tb_i 946 (by decide +kernel) (by decide +kernel), tb_i 21 (by decide +kernel) (by decide +kernel)⟩
def sX6_strikes_b129 (a0 : Nat) (a1 : Nat) (x2 : Int) (x3 : Int)   (M : MM) : Option (Int × MM) := ((some (mU M a0 1 ((M a0 1) + 1))).bind fun M_1 => ((some (((M_1 a0 7) * 8) + (M_1 a0 0))).bind fun v_3 => (if 0 ≤ wI v_3 ∧ wI v_3 < 24 then (if 0 ≤ wI v_3 ∧ wI v_3 < 24 then ((some (mU M_1 (gR a0 10) (wI v_3).toNat ((M_1 (gR a0 10) (wI v_3).toNat) + 1))).bind fun M_6 => (some ((1, M_6)))) else none) else none)))
def sX6_strikes_b126 (a0 : Nat) (a1 : Nat) (x2 : Int) (x3 : Int)  (a90 : Nat) (x91 : Int) (x92 : Int) (M : MM) : Option (Int × MM) := ((sX6_takes a90 x91 x92 M).bind fun q_1 => (sX6_strikes_b129 a0 a1 x2 x3 q_1))
def sX6_strikes_b74 (a0 : Nat) (a1 : Nat) (x2 : Int) (x3 : Int)   (M : MM) : Option (Int × MM) := (if wI (M a0 8) = (-1) then ((some (mU M a0 7 0)).bind fun M_7 => (sX6_strikes_b129 a0 a1 x2 x3 M_7)) else (if wI (M a0 7) = 2 then (if 0 ≤ wI (M a0 0) ∧ wI (M a0 0) < 8 then (sX6_strikes_b126 a0 a1 x2 x3 a0 (M a0 8) (M (gR a1 5) (wI (M a0 0)).toNat) M) else none) else (if 0 ≤ wI (M a0 0) ∧ wI (M a0 0) < 8 then (sX6_strikes_b126 a0 a1 x2 x3 a0 (M a0 8) (Int.tdiv (wI (M (gR a1 5) (wI (M a0 0)).toNat)) 2) M) else none)))
def sX6_strikes_b0 (a0 : Nat) (a1 : Nat) (x2 : Int) (x3 : Int)   (M : MM) : Option (Int × MM) := (if wI (sX5_has a1 (M a0 0) M) = 0 then (some ((0, M))) else (if wI (M a0 2) = (-1) then (some ((0, M))) else (if wI (M a0 1) < wI (M a1 12) then ((some (mU M a0 7 2)).bind fun M_4 => ((sX6_firstPartOff a0 a1 x2 x3 0 M_4).bind fun q_5 => ((some (mU M_4 a0 8 q_5)).bind fun M_6 => (if wI (M_6 a0 8) = (-1) then ((some (mU M_6 a0 7 1)).bind fun M_8 => ((sX6_firstPartOff a0 a1 x2 x3 1 M_8).bind fun q_9 => ((some (mU M_8 a0 8 q_9)).bind fun M_10 => (sX6_strikes_b74 a0 a1 x2 x3 M_10)))) else (sX6_strikes_b74 a0 a1 x2 x3 M_6))))) else (some ((0, M))))))
def sX6_strikes (a0 : Nat) (a1 : Nat) (x2 : Int) (x3 : Int) (M : MM) : Option (Int × MM) := sX6_strikes_b0 a0 a1 x2 x3 M
set_option maxHeartbeats 4000000 in
set_option maxRecDepth 100000 in
theorem bX6_strikes_b129 {G : GG} (a0 : Nat) (a1 : Nat) (x2 : Int) (x3 : Int) (oa0 : OB L0 a0 6) (oa1 : OB L0 a1 5)  (M : MM) {res : (Int × MM)}  (h : sX6_strikes_b129 a0 a1 x2 x3 M = some res) : VV G xX6_strikes (ZM G xX6_strikes (some (.int (eI res.1))) L0 res.2) L0 M 0 0 129 [(0, .ref (gA G a0))] [] := by
  unfold sX6_strikes_b129 at h
  refine r_aload_n (pc := 129) (i := 0) dX6_strikes_129 rfl 0 rfl ?_
  refine r_dup (pc := 130) dX6_strikes_130 rfl ?_
  refine r_getI (pc := 131) fg_6_47 rfl oa0 dX6_strikes_131 ?_
  refine r_iconst (pc := 134) (v := 1) dX6_strikes_134 (by decide +kernel) ?_
  refine r_iadd (pc := 135) dX6_strikes_135 ?_
  obtain ⟨M_1, hM_1, h⟩ := ob h
  refine r_putI (pc := 136) fg_6_47 rfl oa0 hM_1 rfl rfl dX6_strikes_136 ?_
  refine r_aload_n (pc := 139) (i := 0) dX6_strikes_139 rfl 0 rfl ?_
  have o_2 := (wt_6_10 oa0).2
  refine r_getR (pc := 140) fg_6_15 rfl oa0 (wt_6_10 oa0).1 dX6_strikes_140 ?_
  refine r_aload_n (pc := 143) (i := 0) dX6_strikes_143 rfl 0 rfl ?_
  refine r_getI (pc := 144) fg_6_66 rfl oa0 dX6_strikes_144 ?_
  refine r_bipush (pc := 147) (v := 8) dX6_strikes_147 (by decide +kernel) ?_
  refine r_imul (pc := 149) dX6_strikes_149 ?_
  refine r_aload_n (pc := 150) (i := 0) dX6_strikes_150 rfl 0 rfl ?_
  refine r_getI (pc := 151) fg_6_44 rfl oa0 dX6_strikes_151 ?_
  refine r_iadd (pc := 154) dX6_strikes_154 ?_
  obtain ⟨v_3, hv_3, h⟩ := ob h
  refine r_nmI (pc := 155) hv_3 ?_
  refine r_dup2 (pc := 155) dX6_strikes_155 rfl rfl ?_
  obtain ⟨c_4, h⟩ := og h
  refine r_iald (pc := 156) o_2 rfl c_4 rfl dX6_strikes_156 ?_
  refine r_iconst (pc := 157) (v := 1) dX6_strikes_157 (by decide +kernel) ?_
  refine r_iadd (pc := 158) dX6_strikes_158 ?_
  obtain ⟨c_5, h⟩ := og h
  obtain ⟨M_6, hM_6, h⟩ := ob h
  refine r_iast (pc := 159) o_2 rfl c_5 rfl hM_6 dX6_strikes_159 ?_
  refine r_iconst (pc := 160) (v := 1) dX6_strikes_160 (by decide +kernel) ?_
  cases h
  exact r_iret (pc := 161) rfl (zn_ok (Or.inr rfl)).1 (Nat.le_refl 0) (Nat.le_refl 0) dX6_strikes_161
set_option maxHeartbeats 4000000 in
set_option maxRecDepth 100000 in
theorem bX6_strikes_b126 {G : GG} (a0 : Nat) (a1 : Nat) (x2 : Int) (x3 : Int) (oa0 : OB L0 a0 6) (oa1 : OB L0 a1 5) (a90 : Nat) (x91 : Int) (x92 : Int) (M : MM) {res : (Int × MM)} (oa90 : OB L0 a90 6) (h : sX6_strikes_b126 a0 a1 x2 x3 a90 x91 x92 M = some res) : VV G xX6_strikes (ZM G xX6_strikes (some (.int (eI res.1))) L0 res.2) L0 M 0 0 126 [(0, .ref (gA G a0))] [.int (eI x92), .int (eI x91), .ref (gA G a90)] := by
  unfold sX6_strikes_b126 at h
  obtain ⟨q_1, hq_1, h⟩ := ob h
  refine r_cV (pc := 126) (Y := xX6_takes) (As := [.int (eI x91), .int (eI x92)]) (rest := []) (v := none) (st1 := []) ck_X6_strikes_124 (kX6_takes a90 x91 x92 M oa90 hq_1) oa90 rfl rfl rfl rfl (Nat.le_of_ble_eq_true rfl) ⟨rfl, rfl⟩ rfl dX6_strikes_126 ?_
  refine r_sub (lv' := [(0, .ref (gA G a0))]) [0] rfl ?_
  exact bX6_strikes_b129 a0 a1 x2 x3 oa0 oa1 _ h
set_option maxHeartbeats 4000000 in
set_option maxRecDepth 100000 in
theorem bX6_strikes_b74 {G : GG} (a0 : Nat) (a1 : Nat) (x2 : Int) (x3 : Int) (oa0 : OB L0 a0 6) (oa1 : OB L0 a1 5)  (M : MM) {res : (Int × MM)}  (h : sX6_strikes_b74 a0 a1 x2 x3 M = some res) : VV G xX6_strikes (ZM G xX6_strikes (some (.int (eI res.1))) L0 res.2) L0 M 0 0 74 [(0, .ref (gA G a0)), (1, .ref (gA G a1))] [] := by
  unfold sX6_strikes_b74 at h
  refine r_aload_n (pc := 74) (i := 0) dX6_strikes_74 rfl 0 rfl ?_
  refine r_getI (pc := 75) fg_6_69 rfl oa0 dX6_strikes_75 ?_
  refine r_iconst (pc := 78) (v := (-1)) dX6_strikes_78 (by decide +kernel) ?_
  refine r_icmp_ne (pc := 79) (tgt := 90) dX6_strikes_79 (by decide) rfl wl_m1 (fun c_1 => ?_) (fun c_1 => ?_)
  · replace h := (if_neg c_1).symm.trans h
    refine r_aload_n (pc := 90) (i := 0) dX6_strikes_90 rfl 0 rfl ?_
    refine r_aload_n (pc := 91) (i := 0) dX6_strikes_91 rfl 0 rfl ?_
    refine r_getI (pc := 92) fg_6_69 rfl oa0 dX6_strikes_92 ?_
    refine r_aload_n (pc := 95) (i := 0) dX6_strikes_95 rfl 0 rfl ?_
    refine r_getI (pc := 96) fg_6_66 rfl oa0 dX6_strikes_96 ?_
    refine r_iconst (pc := 99) (v := 2) dX6_strikes_99 (by decide +kernel) ?_
    refine r_icmp_ne (pc := 100) (tgt := 115) dX6_strikes_100 (by decide) rfl wl_2 (fun c_2 => ?_) (fun c_2 => ?_)
    · replace h := (if_neg c_2).symm.trans h
      refine r_aload_n (pc := 115) (i := 1) dX6_strikes_115 rfl 1 rfl ?_
      have o_3 := (wt_5_5 oa1).2
      refine r_getR (pc := 116) fg_6_121 rfl oa1 (wt_5_5 oa1).1 dX6_strikes_116 ?_
      refine r_aload_n (pc := 119) (i := 0) dX6_strikes_119 rfl 0 rfl ?_
      refine r_getI (pc := 120) fg_6_44 rfl oa0 dX6_strikes_120 ?_
      obtain ⟨c_4, h⟩ := og h
      refine r_iald (pc := 123) o_3 rfl c_4 rfl dX6_strikes_123 ?_
      refine r_iconst (pc := 124) (v := 2) dX6_strikes_124 (by decide +kernel) ?_
      refine r_idiv (pc := 125) dX6_strikes_125 rfl wl_2 (by decide) ?_
      refine r_sub (lv' := [(0, .ref (gA G a0))]) [0] rfl ?_
      exact bX6_strikes_b126 a0 a1 x2 x3 oa0 oa1 _ _ _ _ oa0 h
    · replace h := (if_pos c_2).symm.trans h
      refine r_aload_n (pc := 103) (i := 1) dX6_strikes_103 rfl 1 rfl ?_
      have o_5 := (wt_5_5 oa1).2
      refine r_getR (pc := 104) fg_6_121 rfl oa1 (wt_5_5 oa1).1 dX6_strikes_104 ?_
      refine r_aload_n (pc := 107) (i := 0) dX6_strikes_107 rfl 0 rfl ?_
      refine r_getI (pc := 108) fg_6_44 rfl oa0 dX6_strikes_108 ?_
      obtain ⟨c_6, h⟩ := og h
      refine r_iald (pc := 111) o_5 rfl c_6 rfl dX6_strikes_111 ?_
      refine r_goto (pc := 112) (tgt := 126) dX6_strikes_112 (by decide) ?_
      refine r_sub (lv' := [(0, .ref (gA G a0))]) [0] rfl ?_
      exact bX6_strikes_b126 a0 a1 x2 x3 oa0 oa1 _ _ _ _ oa0 h
  · replace h := (if_pos c_1).symm.trans h
    refine r_aload_n (pc := 82) (i := 0) dX6_strikes_82 rfl 0 rfl ?_
    refine r_iconst (pc := 83) (v := 0) dX6_strikes_83 (by decide +kernel) ?_
    obtain ⟨M_7, hM_7, h⟩ := ob h
    refine r_putI (pc := 84) fg_6_66 rfl oa0 hM_7 rfl rfl dX6_strikes_84 ?_
    refine r_goto (pc := 87) (tgt := 129) dX6_strikes_87 (by decide) ?_
    refine r_sub (lv' := [(0, .ref (gA G a0))]) [0] rfl ?_
    exact bX6_strikes_b129 a0 a1 x2 x3 oa0 oa1 _ h
set_option maxHeartbeats 4000000 in
set_option maxRecDepth 100000 in
theorem bX6_strikes_b0 {G : GG} (a0 : Nat) (a1 : Nat) (x2 : Int) (x3 : Int) (oa0 : OB L0 a0 6) (oa1 : OB L0 a1 5)  (M : MM) {res : (Int × MM)}  (h : sX6_strikes_b0 a0 a1 x2 x3 M = some res) : VV G xX6_strikes (ZM G xX6_strikes (some (.int (eI res.1))) L0 res.2) L0 M 0 0 0 [(0, .ref (gA G a0)), (1, .ref (gA G a1)), (2, .int (eI x2)), (3, .int (eI x3))] [] := by
  unfold sX6_strikes_b0 at h
  refine r_aload_n (pc := 0) (i := 1) dX6_strikes_0 rfl 1 rfl ?_
  refine r_aload_n (pc := 1) (i := 0) dX6_strikes_1 rfl 0 rfl ?_
  refine r_getI (pc := 2) fg_6_44 rfl oa0 dX6_strikes_2 ?_
  refine r_cV (pc := 5) (Y := xX5_has) (As := [.int (eI (M a0 0))]) (rest := []) (v := (some (.int (eI (sX5_has a1 (M a0 0) M))))) (st1 := [.int (eI (sX5_has a1 (M a0 0) M))]) ck_X6_strikes_108 (kX5_has a1 (M a0 0) M oa1) oa1 rfl rfl rfl rfl (Nat.le_of_ble_eq_true rfl) ⟨rfl, rfl⟩ rfl dX6_strikes_5 ?_
  refine r_if_eq (pc := 8) (tgt := 30) dX6_strikes_8 (by decide) rfl (fun c_1 => ?_) (fun c_1 => ?_)
  · replace h := (if_pos c_1).symm.trans h
    refine r_iconst (pc := 30) (v := 0) dX6_strikes_30 (by decide +kernel) ?_
    cases h
    exact r_iret (pc := 31) rfl (zn_ok (Or.inl rfl)).1 (Nat.le_refl 0) (Nat.le_refl 0) dX6_strikes_31
  · replace h := (if_neg c_1).symm.trans h
    refine r_aload_n (pc := 11) (i := 0) dX6_strikes_11 rfl 0 rfl ?_
    refine r_getI (pc := 12) fg_6_50 rfl oa0 dX6_strikes_12 ?_
    refine r_iconst (pc := 15) (v := (-1)) dX6_strikes_15 (by decide +kernel) ?_
    refine r_icmp_eq (pc := 16) (tgt := 30) dX6_strikes_16 (by decide) rfl wl_m1 (fun c_2 => ?_) (fun c_2 => ?_)
    · replace h := (if_pos c_2).symm.trans h
      refine r_iconst (pc := 30) (v := 0) dX6_strikes_30 (by decide +kernel) ?_
      cases h
      exact r_iret (pc := 31) rfl (zn_ok (Or.inl rfl)).1 (Nat.le_refl 0) (Nat.le_refl 0) dX6_strikes_31
    · replace h := (if_neg c_2).symm.trans h
      refine r_aload_n (pc := 19) (i := 0) dX6_strikes_19 rfl 0 rfl ?_
      refine r_getI (pc := 20) fg_6_47 rfl oa0 dX6_strikes_20 ?_
      refine r_aload_n (pc := 23) (i := 1) dX6_strikes_23 rfl 1 rfl ?_
      refine r_getI (pc := 24) fg_6_111 rfl oa1 dX6_strikes_24 ?_
      refine r_icmp_lt (pc := 27) (tgt := 32) dX6_strikes_27 (by decide) rfl rfl (fun c_3 => ?_) (fun c_3 => ?_)
      · replace h := (if_pos c_3).symm.trans h
        refine r_aload_n (pc := 32) (i := 0) dX6_strikes_32 rfl 0 rfl ?_
        refine r_iconst (pc := 33) (v := 2) dX6_strikes_33 (by decide +kernel) ?_
        obtain ⟨M_4, hM_4, h⟩ := ob h
        refine r_putI (pc := 34) fg_6_66 rfl oa0 hM_4 rfl rfl dX6_strikes_34 ?_
        refine r_aload_n (pc := 37) (i := 0) dX6_strikes_37 rfl 0 rfl ?_
        refine r_aload_n (pc := 38) (i := 0) dX6_strikes_38 rfl 0 rfl ?_
        refine r_aload_n (pc := 39) (i := 1) dX6_strikes_39 rfl 1 rfl ?_
        refine r_iload_n (pc := 40) (i := 2) dX6_strikes_40 rfl 2 rfl ?_
        refine r_iload_n (pc := 41) (i := 3) dX6_strikes_41 rfl 3 rfl ?_
        refine r_iconst (pc := 42) (v := 0) dX6_strikes_42 (by decide +kernel) ?_
        obtain ⟨q_5, hq_5, h⟩ := ob h
        refine r_cV (pc := 43) (Y := xX6_firstPartOff) (As := [.ref (gA G a1), .int (eI x2), .int (eI x3), .int (eI 0)]) (rest := [.ref (gA G a0)]) (v := (some (.int (eI q_5)))) (st1 := [.int (eI q_5), .ref (gA G a0)]) ck_X6_strikes_117 (kX6_firstPartOff a0 a1 x2 x3 0 M_4 oa0 oa1 hq_5) oa0 rfl rfl rfl rfl (Nat.le_of_ble_eq_true rfl) ⟨rfl, rfl⟩ rfl dX6_strikes_43 ?_
        obtain ⟨M_6, hM_6, h⟩ := ob h
        refine r_putI (pc := 46) fg_6_69 rfl oa0 hM_6 rfl rfl dX6_strikes_46 ?_
        refine r_aload_n (pc := 49) (i := 0) dX6_strikes_49 rfl 0 rfl ?_
        refine r_getI (pc := 50) fg_6_69 rfl oa0 dX6_strikes_50 ?_
        refine r_iconst (pc := 53) (v := (-1)) dX6_strikes_53 (by decide +kernel) ?_
        refine r_icmp_ne (pc := 54) (tgt := 74) dX6_strikes_54 (by decide) rfl wl_m1 (fun c_7 => ?_) (fun c_7 => ?_)
        · replace h := (if_neg c_7).symm.trans h
          refine r_sub (lv' := [(0, .ref (gA G a0)), (1, .ref (gA G a1))]) [0, 1] rfl ?_
          exact bX6_strikes_b74 a0 a1 x2 x3 oa0 oa1 _ h
        · replace h := (if_pos c_7).symm.trans h
          refine r_aload_n (pc := 57) (i := 0) dX6_strikes_57 rfl 0 rfl ?_
          refine r_iconst (pc := 58) (v := 1) dX6_strikes_58 (by decide +kernel) ?_
          obtain ⟨M_8, hM_8, h⟩ := ob h
          refine r_putI (pc := 59) fg_6_66 rfl oa0 hM_8 rfl rfl dX6_strikes_59 ?_
          refine r_aload_n (pc := 62) (i := 0) dX6_strikes_62 rfl 0 rfl ?_
          refine r_aload_n (pc := 63) (i := 0) dX6_strikes_63 rfl 0 rfl ?_
          refine r_aload_n (pc := 64) (i := 1) dX6_strikes_64 rfl 1 rfl ?_
          refine r_iload_n (pc := 65) (i := 2) dX6_strikes_65 rfl 2 rfl ?_
          refine r_iload_n (pc := 66) (i := 3) dX6_strikes_66 rfl 3 rfl ?_
          refine r_iconst (pc := 67) (v := 1) dX6_strikes_67 (by decide +kernel) ?_
          obtain ⟨q_9, hq_9, h⟩ := ob h
          refine r_cV (pc := 68) (Y := xX6_firstPartOff) (As := [.ref (gA G a1), .int (eI x2), .int (eI x3), .int (eI 1)]) (rest := [.ref (gA G a0)]) (v := (some (.int (eI q_9)))) (st1 := [.int (eI q_9), .ref (gA G a0)]) ck_X6_strikes_117 (kX6_firstPartOff a0 a1 x2 x3 1 M_8 oa0 oa1 hq_9) oa0 rfl rfl rfl rfl (Nat.le_of_ble_eq_true rfl) ⟨rfl, rfl⟩ rfl dX6_strikes_68 ?_
          obtain ⟨M_10, hM_10, h⟩ := ob h
          refine r_putI (pc := 71) fg_6_69 rfl oa0 hM_10 rfl rfl dX6_strikes_71 ?_
          refine r_sub (lv' := [(0, .ref (gA G a0)), (1, .ref (gA G a1))]) [0, 1] rfl ?_
          exact bX6_strikes_b74 a0 a1 x2 x3 oa0 oa1 _ h
      · replace h := (if_neg c_3).symm.trans h
        refine r_iconst (pc := 30) (v := 0) dX6_strikes_30 (by decide +kernel) ?_
        cases h
        exact r_iret (pc := 31) rfl (zn_ok (Or.inl rfl)).1 (Nat.le_refl 0) (Nat.le_refl 0) dX6_strikes_31
theorem kX6_strikes {G : GG} (a0 : Nat) (a1 : Nat) (x2 : Int) (x3 : Int) (M : MM) {res : (Int × MM)} (oa0 : OB L0 a0 6) (oa1 : OB L0 a1 5) (h : sX6_strikes a0 a1 x2 x3 M = some res) : CO G xX6_strikes [.ref (gA G a0), .ref (gA G a1), .int (eI x2), .int (eI x3)] L0 M (some (.int (eI res.1))) L0 res.2 := CO_of (by decide +kernel) (Nat.le_of_ble_eq_true rfl) (bX6_strikes_b0 a0 a1 x2 x3 oa0 oa1 M h)
abbrev xX6_raises : XX := (yX6_raises, cX6_raises, 2, (some .boolean), 0, 0, 0, 0)
def sX6_raises_b0 (a0 : Nat) (x1 : Int)   (M : MM) : Option (Int × MM) := (if wI ((M a0 3) + x1) < 0 then (some ((0, M))) else (if wI ((M a0 3) + x1) ≤ 9 then ((some (mU M a0 3 ((M a0 3) + x1))).bind fun M_3 => (some ((1, M_3)))) else (some ((0, M)))))
def sX6_raises (a0 : Nat) (x1 : Int) (M : MM) : Option (Int × MM) := sX6_raises_b0 a0 x1 M
set_option maxHeartbeats 4000000 in
set_option maxRecDepth 100000 in
theorem bX6_raises_b0 {G : GG} (a0 : Nat) (x1 : Int) (oa0 : OB L0 a0 6)  (M : MM) {res : (Int × MM)}  (h : sX6_raises_b0 a0 x1 M = some res) : VV G xX6_raises (ZM G xX6_raises (some (.int (eI res.1))) L0 res.2) L0 M 0 0 0 [(0, .ref (gA G a0)), (1, .int (eI x1))] [] := by
  unfold sX6_raises_b0 at h
  refine r_aload_n (pc := 0) (i := 0) dX6_raises_0 rfl 0 rfl ?_
  refine r_getI (pc := 1) fg_6_53 rfl oa0 dX6_raises_1 ?_
  refine r_iload_n (pc := 4) (i := 1) dX6_raises_4 rfl 1 rfl ?_
  refine r_iadd (pc := 5) dX6_raises_5 ?_
  refine r_if_lt (pc := 6) (tgt := 20) dX6_raises_6 (by decide) rfl (fun c_1 => ?_) (fun c_1 => ?_)
  · replace h := (if_pos c_1).symm.trans h
    refine r_iconst (pc := 20) (v := 0) dX6_raises_20 (by decide +kernel) ?_
    cases h
    exact r_iret (pc := 21) rfl (zn_ok (Or.inl rfl)).1 (Nat.le_refl 0) (Nat.le_refl 0) dX6_raises_21
  · replace h := (if_neg c_1).symm.trans h
    refine r_aload_n (pc := 9) (i := 0) dX6_raises_9 rfl 0 rfl ?_
    refine r_getI (pc := 10) fg_6_53 rfl oa0 dX6_raises_10 ?_
    refine r_iload_n (pc := 13) (i := 1) dX6_raises_13 rfl 1 rfl ?_
    refine r_iadd (pc := 14) dX6_raises_14 ?_
    refine r_bipush (pc := 15) (v := 9) dX6_raises_15 (by decide +kernel) ?_
    refine r_icmp_le (pc := 17) (tgt := 22) dX6_raises_17 (by decide) rfl wl_9 (fun c_2 => ?_) (fun c_2 => ?_)
    · replace h := (if_pos c_2).symm.trans h
      refine r_aload_n (pc := 22) (i := 0) dX6_raises_22 rfl 0 rfl ?_
      refine r_dup (pc := 23) dX6_raises_23 rfl ?_
      refine r_getI (pc := 24) fg_6_53 rfl oa0 dX6_raises_24 ?_
      refine r_iload_n (pc := 27) (i := 1) dX6_raises_27 rfl 1 rfl ?_
      refine r_iadd (pc := 28) dX6_raises_28 ?_
      obtain ⟨M_3, hM_3, h⟩ := ob h
      refine r_putI (pc := 29) fg_6_53 rfl oa0 hM_3 rfl rfl dX6_raises_29 ?_
      refine r_iconst (pc := 32) (v := 1) dX6_raises_32 (by decide +kernel) ?_
      cases h
      exact r_iret (pc := 33) rfl (zn_ok (Or.inr rfl)).1 (Nat.le_refl 0) (Nat.le_refl 0) dX6_raises_33
    · replace h := (if_neg c_2).symm.trans h
      refine r_iconst (pc := 20) (v := 0) dX6_raises_20 (by decide +kernel) ?_
      cases h
      exact r_iret (pc := 21) rfl (zn_ok (Or.inl rfl)).1 (Nat.le_refl 0) (Nat.le_refl 0) dX6_raises_21
theorem kX6_raises {G : GG} (a0 : Nat) (x1 : Int) (M : MM) {res : (Int × MM)} (oa0 : OB L0 a0 6) (h : sX6_raises a0 x1 M = some res) : CO G xX6_raises [.ref (gA G a0), .int (eI x1)] L0 M (some (.int (eI res.1))) L0 res.2 := CO_of (by decide +kernel) (Nat.le_of_ble_eq_true rfl) (bX6_raises_b0 a0 x1 oa0 M h)
abbrev xX6_isCutOpen : XX := (yX6_isCutOpen, cX6_isCutOpen, 2, (some .boolean), 0, 0, 0, 0)
def sX6_isCutOpen_b0 (a0 : Nat) (a1 : Nat)   (M : MM) : Option (Int × MM) := (if 0 ≤ wI (M a1 3) ∧ wI (M a1 3) < 32 then (if wI (M a0 6) = wI ((1 * 2 ^ (wI (M a1 3)).toNat) - 1) then ((some (mU M a0 5 1)).bind fun M_3 => (some ((1, M_3)))) else (some ((0, M)))) else none)
def sX6_isCutOpen (a0 : Nat) (a1 : Nat) (M : MM) : Option (Int × MM) := sX6_isCutOpen_b0 a0 a1 M
set_option maxHeartbeats 4000000 in
set_option maxRecDepth 100000 in
theorem bX6_isCutOpen_b0 {G : GG} (a0 : Nat) (a1 : Nat) (oa0 : OB L0 a0 6) (oa1 : OB L0 a1 5)  (M : MM) {res : (Int × MM)}  (h : sX6_isCutOpen_b0 a0 a1 M = some res) : VV G xX6_isCutOpen (ZM G xX6_isCutOpen (some (.int (eI res.1))) L0 res.2) L0 M 0 0 0 [(0, .ref (gA G a0)), (1, .ref (gA G a1))] [] := by
  unfold sX6_isCutOpen_b0 at h
  refine r_aload_n (pc := 0) (i := 0) dX6_isCutOpen_0 rfl 0 rfl ?_
  refine r_getI (pc := 1) fg_6_63 rfl oa0 dX6_isCutOpen_1 ?_
  refine r_iconst (pc := 4) (v := 1) dX6_isCutOpen_4 (by decide +kernel) ?_
  refine r_aload_n (pc := 5) (i := 1) dX6_isCutOpen_5 rfl 1 rfl ?_
  refine r_getI (pc := 6) fg_6_114 rfl oa1 dX6_isCutOpen_6 ?_
  obtain ⟨c_1, h⟩ := og h
  refine r_ishl (pc := 9) rfl c_1 dX6_isCutOpen_9 ?_
  refine r_iconst (pc := 10) (v := 1) dX6_isCutOpen_10 (by decide +kernel) ?_
  refine r_isub (pc := 11) dX6_isCutOpen_11 ?_
  refine r_icmp_eq (pc := 12) (tgt := 17) dX6_isCutOpen_12 (by decide) rfl rfl (fun c_2 => ?_) (fun c_2 => ?_)
  · replace h := (if_pos c_2).symm.trans h
    refine r_aload_n (pc := 17) (i := 0) dX6_isCutOpen_17 rfl 0 rfl ?_
    refine r_iconst (pc := 18) (v := 1) dX6_isCutOpen_18 (by decide +kernel) ?_
    obtain ⟨M_3, hM_3, h⟩ := ob h
    refine r_putI (pc := 19) fg_6_59 rfl oa0 hM_3 (by decide +kernel) (by decide +kernel) dX6_isCutOpen_19 ?_
    refine r_iconst (pc := 22) (v := 1) dX6_isCutOpen_22 (by decide +kernel) ?_
    cases h
    exact r_iret (pc := 23) rfl (zn_ok (Or.inr rfl)).1 (Nat.le_refl 0) (Nat.le_refl 0) dX6_isCutOpen_23
  · replace h := (if_neg c_2).symm.trans h
    refine r_iconst (pc := 15) (v := 0) dX6_isCutOpen_15 (by decide +kernel) ?_
    cases h
    exact r_iret (pc := 16) rfl (zn_ok (Or.inl rfl)).1 (Nat.le_refl 0) (Nat.le_refl 0) dX6_isCutOpen_16
theorem kX6_isCutOpen {G : GG} (a0 : Nat) (a1 : Nat) (M : MM) {res : (Int × MM)} (oa0 : OB L0 a0 6) (oa1 : OB L0 a1 5) (h : sX6_isCutOpen a0 a1 M = some res) : CO G xX6_isCutOpen [.ref (gA G a0), .ref (gA G a1)] L0 M (some (.int (eI res.1))) L0 res.2 := CO_of (by decide +kernel) (Nat.le_of_ble_eq_true rfl) (bX6_isCutOpen_b0 a0 a1 oa0 oa1 M h)
abbrev xX6_canDo : XX := (yX6_canDo, cX6_canDo, 5, (some .boolean), 4, 94, 0, 0)
theorem ck_X6_canDo_89 : CKV xX6_canDo 89 xX6_goes 2 := ⟨⟨tb_i 920 (by decide +kernel) (by decide +kernel), tb_i 147 (by decide +kernel) (by decide +kernel), tb_i 923 (by decide +kernel) (by decide +kernel), ⟨by decide +kernel, by decide +kernel, by decide +kernel⟩, by decide, by decide⟩, tb_i 922 (by decide +kernel) (by decide +kernel), tb_i 17 (by decide +kernel) (by decide +kernel)⟩
theorem ck_X6_canDo_93 : CKV xX6_canDo 93 xX6_faces 1 := ⟨⟨tb_i 925 (by decide +kernel) (by decide +kernel), tb_i 147 (by decide +kernel) (by decide +kernel), tb_i 928 (by decide +kernel) (by decide +kernel), ⟨by decide +kernel, by decide +kernel, by decide +kernel⟩, by decide, by decide⟩, tb_i 927 (by decide +kernel) (by decide +kernel), tb_i 18 (by decide +kernel) (by decide +kernel)⟩
theorem ck_X6_canDo_97 : CKV xX6_canDo 97 xX6_strikes 3 := ⟨⟨tb_i 929 (by decide +kernel) (by decide +kernel), tb_i 147 (by decide +kernel) (by decide +kernel), tb_i 932 (by decide +kernel) (by decide +kernel), ⟨by decide +kernel, by decide +kernel, by decide +kernel⟩, by decide, by decide⟩, tb_i 931 (by decide +kernel) (by decide +kernel), tb_i 19 (by decide +kernel) (by decide +kernel)⟩
theorem ck_X6_canDo_101 : CKV xX6_canDo 101 xX6_raises 1 := ⟨⟨tb_i 949 (by decide +kernel) (by decide +kernel), tb_i 147 (by decide +kernel) (by decide +kernel), tb_i 952 (by decide +kernel) (by decide +kernel), ⟨by decide +kernel, by decide +kernel, by decide +kernel⟩, by decide, by decide⟩, tb_i 951 (by decide +kernel) (by decide +kernel), tb_i 22 (by decide +kernel) (by decide +kernel)⟩
theorem ck_X6_canDo_104 : CKV xX6_canDo 104 xX6_isCutOpen 1 := ⟨⟨tb_i 953 (by decide +kernel) (by decide +kernel), tb_i 147 (by decide +kernel) (by decide +kernel), tb_i 956 (by decide +kernel) (by decide +kernel), ⟨by decide +kernel, by decide +kernel, by decide +kernel⟩, by decide, by decide⟩, tb_i 955 (by decide +kernel) (by decide +kernel), tb_i 23 (by decide +kernel) (by decide +kernel)⟩
def sX6_canDo_b0 (a0 : Nat) (a1 : Nat) (x2 : Int) (x3 : Int) (x4 : Int)   (M : MM) : Option (Int × MM) := (if wI (M a0 4) = (-1) then (if wI (M a0 5) = 0 then (if wI x2 = 12 then ((sX6_goes a0 a1 x3 M).bind fun q_4 => (if (q_4.1) = 0 ∨ (q_4.1) = 1 then (some (((q_4.1), q_4.2))) else none)) else (if wI x2 = 13 then ((sX6_faces a0 x3 M).bind fun q_7 => (if (q_7.1) = 0 ∨ (q_7.1) = 1 then (some (((q_7.1), q_7.2))) else none)) else (if wI x2 = 14 then ((sX6_strikes a0 a1 x3 x4 M).bind fun q_10 => (if (q_10.1) = 0 ∨ (q_10.1) = 1 then (some (((q_10.1), q_10.2))) else none)) else (if wI x2 = 15 then ((sX6_raises a0 x3 M).bind fun q_13 => (if (q_13.1) = 0 ∨ (q_13.1) = 1 then (some (((q_13.1), q_13.2))) else none)) else (if wI x2 = 16 then ((sX6_raises a0 (-x3) M).bind fun q_16 => (if (q_16.1) = 0 ∨ (q_16.1) = 1 then (some (((q_16.1), q_16.2))) else none)) else ((sX6_isCutOpen a0 a1 M).bind fun q_18 => (if (q_18.1) = 0 ∨ (q_18.1) = 1 then (some (((q_18.1), q_18.2))) else none))))))) else (some ((0, M)))) else (some ((0, M))))
def sX6_canDo (a0 : Nat) (a1 : Nat) (x2 : Int) (x3 : Int) (x4 : Int) (M : MM) : Option (Int × MM) := sX6_canDo_b0 a0 a1 x2 x3 x4 M
set_option maxHeartbeats 4000000 in
set_option maxRecDepth 100000 in
theorem bX6_canDo_b0 {G : GG} (a0 : Nat) (a1 : Nat) (x2 : Int) (x3 : Int) (x4 : Int) (oa0 : OB L0 a0 6) (oa1 : OB L0 a1 5)  (M : MM) {res : (Int × MM)}  (h : sX6_canDo_b0 a0 a1 x2 x3 x4 M = some res) : VV G xX6_canDo (ZM G xX6_canDo (some (.int (eI res.1))) L0 res.2) L0 M 0 0 0 [(0, .ref (gA G a0)), (1, .ref (gA G a1)), (2, .int (eI x2)), (3, .int (eI x3)), (4, .int (eI x4))] [] := by
  unfold sX6_canDo_b0 at h
  refine r_aload_n (pc := 0) (i := 0) dX6_canDo_0 rfl 0 rfl ?_
  refine r_getI (pc := 1) fg_6_56 rfl oa0 dX6_canDo_1 ?_
  refine r_iconst (pc := 4) (v := (-1)) dX6_canDo_4 (by decide +kernel) ?_
  refine r_icmp_ne (pc := 5) (tgt := 15) dX6_canDo_5 (by decide) rfl wl_m1 (fun c_1 => ?_) (fun c_1 => ?_)
  · replace h := (if_neg c_1).symm.trans h
    refine r_iconst (pc := 15) (v := 0) dX6_canDo_15 (by decide +kernel) ?_
    cases h
    exact r_iret (pc := 16) rfl (zn_ok (Or.inl rfl)).1 (Nat.le_refl 0) (Nat.le_refl 0) dX6_canDo_16
  · replace h := (if_pos c_1).symm.trans h
    refine r_aload_n (pc := 8) (i := 0) dX6_canDo_8 rfl 0 rfl ?_
    refine r_getI (pc := 9) fg_6_59 rfl oa0 dX6_canDo_9 ?_
    refine r_if_eq (pc := 12) (tgt := 17) dX6_canDo_12 (by decide) rfl (fun c_2 => ?_) (fun c_2 => ?_)
    · replace h := (if_pos c_2).symm.trans h
      refine r_iload_n (pc := 17) (i := 2) dX6_canDo_17 rfl 2 rfl ?_
      by_cases c_3 : wI x2 = 12
      · replace h := (if_pos c_3).symm.trans h
        refine r_tsw (pc := 18) (tgt := 52) (k' := 12) (rfl.trans c_3) dX6_canDo_18 (by decide) rfl (by decide) ?_
        refine r_aload_n (pc := 52) (i := 0) dX6_canDo_52 rfl 0 rfl ?_
        refine r_aload_n (pc := 53) (i := 1) dX6_canDo_53 rfl 1 rfl ?_
        refine r_iload_n (pc := 54) (i := 3) dX6_canDo_54 rfl 3 rfl ?_
        obtain ⟨q_4, hq_4, h⟩ := ob h
        refine r_cV (pc := 55) (Y := xX6_goes) (As := [.ref (gA G a1), .int (eI x3)]) (rest := []) (v := (some (.int (eI (q_4.1))))) (st1 := [.int (eI (q_4.1))]) ck_X6_canDo_89 (kX6_goes a0 a1 x3 M oa0 oa1 hq_4) oa0 rfl rfl rfl rfl (Nat.le_of_ble_eq_true rfl) ⟨rfl, rfl⟩ rfl dX6_canDo_55 ?_
        obtain ⟨c_5, h⟩ := og h
        cases h
        exact r_iret (pc := 58) rfl (zn_ok c_5).1 (Nat.le_refl 0) (Nat.le_refl 0) dX6_canDo_58
      · replace h := (if_neg c_3).symm.trans h
        by_cases c_6 : wI x2 = 13
        · replace h := (if_pos c_6).symm.trans h
          refine r_tsw (pc := 18) (tgt := 59) (k' := 13) (rfl.trans c_6) dX6_canDo_18 (by decide) rfl (by decide) ?_
          refine r_aload_n (pc := 59) (i := 0) dX6_canDo_59 rfl 0 rfl ?_
          refine r_iload_n (pc := 60) (i := 3) dX6_canDo_60 rfl 3 rfl ?_
          obtain ⟨q_7, hq_7, h⟩ := ob h
          refine r_cV (pc := 61) (Y := xX6_faces) (As := [.int (eI x3)]) (rest := []) (v := (some (.int (eI (q_7.1))))) (st1 := [.int (eI (q_7.1))]) ck_X6_canDo_93 (kX6_faces a0 x3 M oa0 hq_7) oa0 rfl rfl rfl rfl (Nat.le_of_ble_eq_true rfl) ⟨rfl, rfl⟩ rfl dX6_canDo_61 ?_
          obtain ⟨c_8, h⟩ := og h
          cases h
          exact r_iret (pc := 64) rfl (zn_ok c_8).1 (Nat.le_refl 0) (Nat.le_refl 0) dX6_canDo_64
        · replace h := (if_neg c_6).symm.trans h
          by_cases c_9 : wI x2 = 14
          · replace h := (if_pos c_9).symm.trans h
            refine r_tsw (pc := 18) (tgt := 65) (k' := 14) (rfl.trans c_9) dX6_canDo_18 (by decide) rfl (by decide) ?_
            refine r_aload_n (pc := 65) (i := 0) dX6_canDo_65 rfl 0 rfl ?_
            refine r_aload_n (pc := 66) (i := 1) dX6_canDo_66 rfl 1 rfl ?_
            refine r_iload_n (pc := 67) (i := 3) dX6_canDo_67 rfl 3 rfl ?_
            refine r_iload (pc := 68) dX6_canDo_68 4 rfl ?_
            obtain ⟨q_10, hq_10, h⟩ := ob h
            refine r_cV (pc := 70) (Y := xX6_strikes) (As := [.ref (gA G a1), .int (eI x3), .int (eI x4)]) (rest := []) (v := (some (.int (eI (q_10.1))))) (st1 := [.int (eI (q_10.1))]) ck_X6_canDo_97 (kX6_strikes a0 a1 x3 x4 M oa0 oa1 hq_10) oa0 rfl rfl rfl rfl (Nat.le_of_ble_eq_true rfl) ⟨rfl, rfl⟩ rfl dX6_canDo_70 ?_
            obtain ⟨c_11, h⟩ := og h
            cases h
            exact r_iret (pc := 73) rfl (zn_ok c_11).1 (Nat.le_refl 0) (Nat.le_refl 0) dX6_canDo_73
          · replace h := (if_neg c_9).symm.trans h
            by_cases c_12 : wI x2 = 15
            · replace h := (if_pos c_12).symm.trans h
              refine r_tsw (pc := 18) (tgt := 74) (k' := 15) (rfl.trans c_12) dX6_canDo_18 (by decide) rfl (by decide) ?_
              refine r_aload_n (pc := 74) (i := 0) dX6_canDo_74 rfl 0 rfl ?_
              refine r_iload_n (pc := 75) (i := 3) dX6_canDo_75 rfl 3 rfl ?_
              obtain ⟨q_13, hq_13, h⟩ := ob h
              refine r_cV (pc := 76) (Y := xX6_raises) (As := [.int (eI x3)]) (rest := []) (v := (some (.int (eI (q_13.1))))) (st1 := [.int (eI (q_13.1))]) ck_X6_canDo_101 (kX6_raises a0 x3 M oa0 hq_13) oa0 rfl rfl rfl rfl (Nat.le_of_ble_eq_true rfl) ⟨rfl, rfl⟩ rfl dX6_canDo_76 ?_
              obtain ⟨c_14, h⟩ := og h
              cases h
              exact r_iret (pc := 79) rfl (zn_ok c_14).1 (Nat.le_refl 0) (Nat.le_refl 0) dX6_canDo_79
            · replace h := (if_neg c_12).symm.trans h
              by_cases c_15 : wI x2 = 16
              · replace h := (if_pos c_15).symm.trans h
                refine r_tsw (pc := 18) (tgt := 80) (k' := 16) (rfl.trans c_15) dX6_canDo_18 (by decide) rfl (by decide) ?_
                refine r_aload_n (pc := 80) (i := 0) dX6_canDo_80 rfl 0 rfl ?_
                refine r_iload_n (pc := 81) (i := 3) dX6_canDo_81 rfl 3 rfl ?_
                refine r_ineg (pc := 82) dX6_canDo_82 ?_
                obtain ⟨q_16, hq_16, h⟩ := ob h
                refine r_cV (pc := 83) (Y := xX6_raises) (As := [.int (eI (-x3))]) (rest := []) (v := (some (.int (eI (q_16.1))))) (st1 := [.int (eI (q_16.1))]) ck_X6_canDo_101 (kX6_raises a0 (-x3) M oa0 hq_16) oa0 rfl rfl rfl rfl (Nat.le_of_ble_eq_true rfl) ⟨rfl, rfl⟩ rfl dX6_canDo_83 ?_
                obtain ⟨c_17, h⟩ := og h
                cases h
                exact r_iret (pc := 86) rfl (zn_ok c_17).1 (Nat.le_refl 0) (Nat.le_refl 0) dX6_canDo_86
              · replace h := (if_neg c_15).symm.trans h
                refine r_tswD (pc := 18) (tgt := 87) rfl dX6_canDo_18 (by omega) (by decide) ?_
                refine r_aload_n (pc := 87) (i := 0) dX6_canDo_87 rfl 0 rfl ?_
                refine r_aload_n (pc := 88) (i := 1) dX6_canDo_88 rfl 1 rfl ?_
                obtain ⟨q_18, hq_18, h⟩ := ob h
                refine r_cV (pc := 89) (Y := xX6_isCutOpen) (As := [.ref (gA G a1)]) (rest := []) (v := (some (.int (eI (q_18.1))))) (st1 := [.int (eI (q_18.1))]) ck_X6_canDo_104 (kX6_isCutOpen a0 a1 M oa0 oa1 hq_18) oa0 rfl rfl rfl rfl (Nat.le_of_ble_eq_true rfl) ⟨rfl, rfl⟩ rfl dX6_canDo_89 ?_
                obtain ⟨c_19, h⟩ := og h
                cases h
                exact r_iret (pc := 92) rfl (zn_ok c_19).1 (Nat.le_refl 0) (Nat.le_refl 0) dX6_canDo_92
    · replace h := (if_neg c_2).symm.trans h
      refine r_iconst (pc := 15) (v := 0) dX6_canDo_15 (by decide +kernel) ?_
      cases h
      exact r_iret (pc := 16) rfl (zn_ok (Or.inl rfl)).1 (Nat.le_refl 0) (Nat.le_refl 0) dX6_canDo_16
theorem kX6_canDo {G : GG} (a0 : Nat) (a1 : Nat) (x2 : Int) (x3 : Int) (x4 : Int) (M : MM) {res : (Int × MM)} (oa0 : OB L0 a0 6) (oa1 : OB L0 a1 5) (h : sX6_canDo a0 a1 x2 x3 x4 M = some res) : CO G xX6_canDo [.ref (gA G a0), .ref (gA G a1), .int (eI x2), .int (eI x3), .int (eI x4)] L0 M (some (.int (eI res.1))) L0 res.2 := CO_of (by decide +kernel) (Nat.le_of_ble_eq_true rfl) (bX6_canDo_b0 a0 a1 x2 x3 x4 oa0 oa1 M h)
