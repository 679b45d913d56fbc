abbrev xX12_many : XX := (yX12_many, cX12_many, 9, (some .int), 1, 24, 0, 0)
theorem ck_X12_many_105 : CKS xX12_many 105 xX12_in 3 := ⟨⟨tb_i 1622 (by decide +kernel) (by decide +kernel), tb_i 152 (by decide +kernel) (by decide +kernel), tb_i 1624 (by decide +kernel) (by decide +kernel), ⟨by decide +kernel, by decide +kernel, by decide +kernel⟩, by decide, by decide⟩, tb_i 1623 (by decide +kernel) (by decide +kernel)⟩
theorem ck_X12_many_615 : CKS xX12_many 615 xX12_power 2 := ⟨⟨tb_i 2161 (by decide +kernel) (by decide +kernel), tb_i 152 (by decide +kernel) (by decide +kernel), tb_i 2163 (by decide +kernel) (by decide +kernel), ⟨by decide +kernel, by decide +kernel, by decide +kernel⟩, by decide, by decide⟩, tb_i 2162 (by decide +kernel) (by decide +kernel)⟩
def sX12_many_b94 (a0 : Nat) (x1 : Int) (x2 : Int) (x3 : Int) (K40 : Int → MM → Option (Int × MM)) (x4 : Int) (M : MM) : Option (Int × MM) := ((some (x4 + 1)).bind fun v_1 => (K40 v_1 M))
def sX12_many_b40 (a0 : Nat) (x1 : Int) (x2 : Int) (x3 : Int)  : Nat → Int → MM → Option (Int × MM)
  | 0, _, _ => none
  | n + 1, x4, M => (if 15 < wI x4 then (some (((-1), M))) else ((sX12_power x1 x4).bind fun q_2 => ((sX12_power x2 x4).bind fun q_3 => (if wJ (q_2 + q_3) ≤ 0 then (sX12_many_b94 a0 x1 x2 x3 (fun x4 M => sX12_many_b40 a0 x1 x2 x3 n x4 M) x4 M) else (if wJ (100 * q_3) < wJ ((wI x3) * (q_2 + q_3)) then (sX12_many_b94 a0 x1 x2 x3 (fun x4 M => sX12_many_b40 a0 x1 x2 x3 n x4 M) x4 M) else (some ((x4, M))))))))
def sX12_many_b0 (a0 : Nat) (x1 : Int) (x2 : Int) (x3 : Int)   (M : MM) : Option (Int × MM) := ((some (mU M a0 0 0)).bind fun M_1 => (if wI (sX12_in x1 0 10) = 0 then (some (((-1), M_1))) else (if wI (sX12_in x2 0 10) = 0 then (some (((-1), M_1))) else (if wI (sX12_in x3 0 100) = 0 then (some (((-1), M_1))) else (sX12_many_b40 a0 x1 x2 x3 FU 0 M_1)))))
def sX12_many (a0 : Nat) (x1 : Int) (x2 : Int) (x3 : Int) (M : MM) : Option (Int × MM) := sX12_many_b0 a0 x1 x2 x3 M
set_option maxHeartbeats 4000000 in
set_option maxRecDepth 100000 in
theorem bX12_many_b94 {G : GG} (a0 : Nat) (x1 : Int) (x2 : Int) (x3 : Int) (oa0 : OB L0 a0 12) {K40 : Int → MM → Option (Int × MM)} (x4 : Int) (M : MM) {res : (Int × MM)} (hK40 : ∀ (x4 : Int) (M : MM), K40 x4 M = some res → VV G xX12_many (ZM G xX12_many (some (.int (eI res.1))) L0 res.2) L0 M 0 0 40 [(1, .int (eI x1)), (2, .int (eI x2)), (3, .int (eI x3)), (4, .int (eI x4))] [])  (h : sX12_many_b94 a0 x1 x2 x3 K40 x4 M = some res) : VV G xX12_many (ZM G xX12_many (some (.int (eI res.1))) L0 res.2) L0 M 0 0 94 [(1, .int (eI x1)), (2, .int (eI x2)), (3, .int (eI x3)), (4, .int (eI x4))] [] := by
  unfold sX12_many_b94 at h
  obtain ⟨v_1, hv_1, h⟩ := ob h
  refine r_iinc (pc := 94) (y := v_1) (lv' := [(4, .int (eI v_1)), (1, .int (eI x1)), (2, .int (eI x2)), (3, .int (eI x3))]) dX12_many_94 3 rfl (Option.some.inj hv_1) (Nat.le_of_ble_eq_true rfl) rfl ?_
  refine r_goto (pc := 97) (tgt := 40) dX12_many_97 (by decide) ?_
  refine r_sub (lv' := [(1, .int (eI x1)), (2, .int (eI x2)), (3, .int (eI x3)), (4, .int (eI v_1))]) [1, 2, 3, 0] rfl ?_
  exact hK40 _ _ h
set_option maxHeartbeats 4000000 in
set_option maxRecDepth 100000 in
theorem bX12_many_b40 {G : GG} (a0 : Nat) (x1 : Int) (x2 : Int) (x3 : Int) (oa0 : OB L0 a0 12) {res : (Int × MM)} : ∀ (n : Nat) (x4 : Int) (M : MM)  (h : sX12_many_b40 a0 x1 x2 x3 n x4 M = some res), VV G xX12_many (ZM G xX12_many (some (.int (eI res.1))) L0 res.2) L0 M 0 0 40 [(1, .int (eI x1)), (2, .int (eI x2)), (3, .int (eI x3)), (4, .int (eI x4))] [] := by
  intro n
  induction n with
  | zero =>
    intro x4 M h
    rw [sX12_many_b40] at h
    cases h
  | succ n ih =>
    intro x4 M h
    rw [sX12_many_b40] at h
    refine r_iload (pc := 40) dX12_many_40 3 rfl ?_
    refine r_bipush (pc := 42) (v := 15) dX12_many_42 (by decide +kernel) ?_
    refine r_icmp_gt (pc := 44) (tgt := 100) dX12_many_44 (by decide) rfl wl_15 (fun c_1 => ?_) (fun c_1 => ?_)
    · replace h := (if_pos c_1).symm.trans h
      refine r_iconst (pc := 100) (v := (-1)) dX12_many_100 (by decide +kernel) ?_
      cases h
      exact r_iret (pc := 101) rfl rfl (Nat.le_refl 0) (Nat.le_refl 0) dX12_many_101
    · replace h := (if_neg c_1).symm.trans h
      refine r_iload_n (pc := 47) (i := 1) dX12_many_47 rfl 0 rfl ?_
      refine r_iload (pc := 48) dX12_many_48 3 rfl ?_
      obtain ⟨q_2, hq_2, h⟩ := ob h
      refine r_cS (pc := 50) (Y := xX12_power) (As := [.int (eI x1), .int (eI x4)]) (rest := []) (v := (some (.long (eJ q_2)))) (st1 := [.long (eJ q_2)]) ck_X12_many_615 (kX12_power x1 x4 M  hq_2) rfl rfl (Nat.le_of_ble_eq_true rfl) ⟨rfl, rfl⟩ rfl dX12_many_50 ?_
      refine r_lstore (pc := 53) (lv' := [(5, .long (eJ q_2)), (1, .int (eI x1)), (2, .int (eI x2)), (3, .int (eI x3)), (4, .int (eI x4))]) dX12_many_53 (Nat.le_of_ble_eq_true rfl) rfl ?_
      refine r_iload_n (pc := 55) (i := 2) dX12_many_55 rfl 2 rfl ?_
      refine r_iload (pc := 56) dX12_many_56 4 rfl ?_
      obtain ⟨q_3, hq_3, h⟩ := ob h
      refine r_cS (pc := 58) (Y := xX12_power) (As := [.int (eI x2), .int (eI x4)]) (rest := []) (v := (some (.long (eJ q_3)))) (st1 := [.long (eJ q_3)]) ck_X12_many_615 (kX12_power x2 x4 M  hq_3) rfl rfl (Nat.le_of_ble_eq_true rfl) ⟨rfl, rfl⟩ rfl dX12_many_58 ?_
      refine r_lstore (pc := 61) (lv' := [(7, .long (eJ q_3)), (5, .long (eJ q_2)), (1, .int (eI x1)), (2, .int (eI x2)), (3, .int (eI x3)), (4, .int (eI x4))]) dX12_many_61 (Nat.le_of_ble_eq_true rfl) rfl ?_
      refine r_lload (pc := 63) dX12_many_63 1 rfl ?_
      refine r_lload (pc := 65) dX12_many_65 0 rfl ?_
      refine r_ladd (pc := 67) dX12_many_67 ?_
      refine r_lconst (pc := 68) (v := 0) dX12_many_68 (by decide +kernel) ?_
      refine r_lcmp_le (pc := 69) (tgt := 94) dX12_many_69 dX12_many_70 (by decide) rfl wj_0 (fun c_4 => ?_) (fun c_4 => ?_)
      · replace h := (if_pos c_4).symm.trans h
        refine r_sub (lv' := [(1, .int (eI x1)), (2, .int (eI x2)), (3, .int (eI x3)), (4, .int (eI x4))]) [2, 3, 4, 5] rfl ?_
        exact bX12_many_b94 a0 x1 x2 x3 oa0 _ _ (fun v0 v1 v2 => ih v0 v1 v2) h
      · replace h := (if_neg c_4).symm.trans h
        refine r_ldc2 (pc := 73) (v := 100) kc_12_618 dX12_many_73 ?_
        refine r_lload (pc := 76) dX12_many_76 0 rfl ?_
        refine r_lmul (pc := 78) dX12_many_78 ?_
        refine r_iload_n (pc := 79) (i := 3) dX12_many_79 rfl 4 rfl ?_
        refine r_i2l (pc := 80) rfl dX12_many_80 ?_
        refine r_lload (pc := 81) dX12_many_81 1 rfl ?_
        refine r_lload (pc := 83) dX12_many_83 0 rfl ?_
        refine r_ladd (pc := 85) dX12_many_85 ?_
        refine r_lmul (pc := 86) dX12_many_86 ?_
        refine r_lcmp_lt (pc := 87) (tgt := 94) dX12_many_87 dX12_many_88 (by decide) rfl rfl (fun c_5 => ?_) (fun c_5 => ?_)
        · replace h := (if_pos c_5).symm.trans h
          refine r_sub (lv' := [(1, .int (eI x1)), (2, .int (eI x2)), (3, .int (eI x3)), (4, .int (eI x4))]) [2, 3, 4, 5] rfl ?_
          exact bX12_many_b94 a0 x1 x2 x3 oa0 _ _ (fun v0 v1 v2 => ih v0 v1 v2) h
        · replace h := (if_neg c_5).symm.trans h
          refine r_iload (pc := 91) dX12_many_91 5 rfl ?_
          cases h
          exact r_iret (pc := 93) rfl rfl (Nat.le_refl 0) (Nat.le_refl 0) dX12_many_93
set_option maxHeartbeats 4000000 in
set_option maxRecDepth 100000 in
theorem bX12_many_b0 {G : GG} (a0 : Nat) (x1 : Int) (x2 : Int) (x3 : Int) (oa0 : OB L0 a0 12)  (M : MM) {res : (Int × MM)}  (h : sX12_many_b0 a0 x1 x2 x3 M = some res) : VV G xX12_many (ZM G xX12_many (some (.int (eI res.1))) L0 res.2) L0 M 0 0 0 [(0, .ref (gA G a0)), (1, .int (eI x1)), (2, .int (eI x2)), (3, .int (eI x3))] [] := by
  unfold sX12_many_b0 at h
  refine r_aload_n (pc := 0) (i := 0) dX12_many_0 rfl 0 rfl ?_
  refine r_iconst (pc := 1) (v := 0) dX12_many_1 (by decide +kernel) ?_
  obtain ⟨M_1, hM_1, h⟩ := ob h
  refine r_putI (pc := 2) fg_12_97 rfl oa0 hM_1 rfl rfl dX12_many_2 ?_
  refine r_iload_n (pc := 5) (i := 1) dX12_many_5 rfl 1 rfl ?_
  refine r_iconst (pc := 6) (v := 0) dX12_many_6 (by decide +kernel) ?_
  refine r_bipush (pc := 7) (v := 10) dX12_many_7 (by decide +kernel) ?_
  refine r_cS (pc := 9) (Y := xX12_in) (As := [.int (eI x1), .int (eI 0), .int (eI 10)]) (rest := []) (v := (some (.int (eI (sX12_in x1 0 10))))) (st1 := [.int (eI (sX12_in x1 0 10))]) ck_X12_many_105 (kX12_in x1 0 10 M_1 ) rfl rfl (Nat.le_of_ble_eq_true rfl) ⟨rfl, rfl⟩ rfl dX12_many_9 ?_
  refine r_if_eq (pc := 12) (tgt := 35) dX12_many_12 (by decide) rfl (fun c_2 => ?_) (fun c_2 => ?_)
  · replace h := (if_pos c_2).symm.trans h
    refine r_iconst (pc := 35) (v := (-1)) dX12_many_35 (by decide +kernel) ?_
    cases h
    exact r_iret (pc := 36) rfl rfl (Nat.le_refl 0) (Nat.le_refl 0) dX12_many_36
  · replace h := (if_neg c_2).symm.trans h
    refine r_iload_n (pc := 15) (i := 2) dX12_many_15 rfl 2 rfl ?_
    refine r_iconst (pc := 16) (v := 0) dX12_many_16 (by decide +kernel) ?_
    refine r_bipush (pc := 17) (v := 10) dX12_many_17 (by decide +kernel) ?_
    refine r_cS (pc := 19) (Y := xX12_in) (As := [.int (eI x2), .int (eI 0), .int (eI 10)]) (rest := []) (v := (some (.int (eI (sX12_in x2 0 10))))) (st1 := [.int (eI (sX12_in x2 0 10))]) ck_X12_many_105 (kX12_in x2 0 10 M_1 ) rfl rfl (Nat.le_of_ble_eq_true rfl) ⟨rfl, rfl⟩ rfl dX12_many_19 ?_
    refine r_if_eq (pc := 22) (tgt := 35) dX12_many_22 (by decide) rfl (fun c_3 => ?_) (fun c_3 => ?_)
    · replace h := (if_pos c_3).symm.trans h
      refine r_iconst (pc := 35) (v := (-1)) dX12_many_35 (by decide +kernel) ?_
      cases h
      exact r_iret (pc := 36) rfl rfl (Nat.le_refl 0) (Nat.le_refl 0) dX12_many_36
    · replace h := (if_neg c_3).symm.trans h
      refine r_iload_n (pc := 25) (i := 3) dX12_many_25 rfl 3 rfl ?_
      refine r_iconst (pc := 26) (v := 0) dX12_many_26 (by decide +kernel) ?_
      refine r_bipush (pc := 27) (v := 100) dX12_many_27 (by decide +kernel) ?_
      refine r_cS (pc := 29) (Y := xX12_in) (As := [.int (eI x3), .int (eI 0), .int (eI 100)]) (rest := []) (v := (some (.int (eI (sX12_in x3 0 100))))) (st1 := [.int (eI (sX12_in x3 0 100))]) ck_X12_many_105 (kX12_in x3 0 100 M_1 ) rfl rfl (Nat.le_of_ble_eq_true rfl) ⟨rfl, rfl⟩ rfl dX12_many_29 ?_
      refine r_if_ne (pc := 32) (tgt := 37) dX12_many_32 (by decide) rfl (fun c_4 => ?_) (fun c_4 => ?_)
      · replace h := (if_neg c_4).symm.trans h
        refine r_iconst (pc := 37) (v := 0) dX12_many_37 (by decide +kernel) ?_
        refine r_istore (pc := 38) (lv' := [(4, .int (eI 0)), (0, .ref (gA G a0)), (1, .int (eI x1)), (2, .int (eI x2)), (3, .int (eI x3))]) dX12_many_38 (Nat.le_of_ble_eq_true rfl) rfl ?_
        refine r_sub (lv' := [(1, .int (eI x1)), (2, .int (eI x2)), (3, .int (eI x3)), (4, .int (eI 0))]) [2, 3, 4, 0] rfl ?_
        exact bX12_many_b40 a0 x1 x2 x3 oa0 _ _ _ h
      · replace h := (if_pos c_4).symm.trans h
        refine r_iconst (pc := 35) (v := (-1)) dX12_many_35 (by decide +kernel) ?_
        cases h
        exact r_iret (pc := 36) rfl rfl (Nat.le_refl 0) (Nat.le_refl 0) dX12_many_36
theorem kX12_many {G : GG} (a0 : Nat) (x1 : Int) (x2 : Int) (x3 : Int) (M : MM) {res : (Int × MM)} (oa0 : OB L0 a0 12) (h : sX12_many a0 x1 x2 x3 M = some res) : CO G xX12_many [.ref (gA G a0), .int (eI x1), .int (eI x2), .int (eI x3)] L0 M (some (.int (eI res.1))) L0 res.2 := CO_of (by decide +kernel) (Nat.le_of_ble_eq_true rfl) (bX12_many_b0 a0 x1 x2 x3 oa0 M h)
abbrev xX12_draw : XX := (yX12_draw, cX12_draw, 2, (some .int), 0, 0, 0, 0)
def sX12_draw_b0 (a0 : Nat) (x1 : Int)   (M : MM) : Option (Int × MM) := ((some (mU M a0 64 (((M a0 64) * 1103515245) + 12345))).bind fun M_1 => (if wI x1 ≠ 0 then (some (((Int.tmod (wI ((M_1 a0 64) % 4294967296 / 2 ^ (Int.toNat 16))) (wI x1)), M_1))) else none))
def sX12_draw (a0 : Nat) (x1 : Int) (M : MM) : Option (Int × MM) := sX12_draw_b0 a0 x1 M
set_option maxHeartbeats 4000000 in
set_option maxRecDepth 100000 in
theorem bX12_draw_b0 {G : GG} (a0 : Nat) (x1 : Int) (oa0 : OB L0 a0 12)  (M : MM) {res : (Int × MM)}  (h : sX12_draw_b0 a0 x1 M = some res) : VV G xX12_draw (ZM G xX12_draw (some (.int (eI res.1))) L0 res.2) L0 M 0 0 0 [(0, .ref (gA G a0)), (1, .int (eI x1))] [] := by
  unfold sX12_draw_b0 at h
  refine r_aload_n (pc := 0) (i := 0) dX12_draw_0 rfl 0 rfl ?_
  refine r_aload_n (pc := 1) (i := 0) dX12_draw_1 rfl 0 rfl ?_
  refine r_getI (pc := 2) fg_12_620 rfl oa0 dX12_draw_2 ?_
  refine r_ldcw (pc := 5) (v := 1103515245) kc_12_623 dX12_draw_5 ?_
  refine r_imul (pc := 8) dX12_draw_8 ?_
  refine r_sipush (pc := 9) (v := 12345) dX12_draw_9 (by decide +kernel) ?_
  refine r_iadd (pc := 12) dX12_draw_12 ?_
  obtain ⟨M_1, hM_1, h⟩ := ob h
  refine r_putI (pc := 13) fg_12_620 rfl oa0 hM_1 rfl rfl dX12_draw_13 ?_
  refine r_aload_n (pc := 16) (i := 0) dX12_draw_16 rfl 0 rfl ?_
  refine r_getI (pc := 17) fg_12_620 rfl oa0 dX12_draw_17 ?_
  refine r_bipush (pc := 20) (v := 16) dX12_draw_20 (by decide +kernel) ?_
  refine r_iushr (pc := 22) wl_16 ⟨by decide, by decide⟩ dX12_draw_22 ?_
  refine r_iload_n (pc := 23) (i := 1) dX12_draw_23 rfl 1 rfl ?_
  obtain ⟨c_2, h⟩ := og h
  refine r_irem (pc := 24) dX12_draw_24 rfl rfl c_2 ?_
  cases h
  exact r_iret (pc := 25) rfl rfl (Nat.le_refl 0) (Nat.le_refl 0) dX12_draw_25
theorem kX12_draw {G : GG} (a0 : Nat) (x1 : Int) (M : MM) {res : (Int × MM)} (oa0 : OB L0 a0 12) (h : sX12_draw a0 x1 M = some res) : CO G xX12_draw [.ref (gA G a0), .int (eI x1)] L0 M (some (.int (eI res.1))) L0 res.2 := CO_of (by decide +kernel) (Nat.le_of_ble_eq_true rfl) (bX12_draw_b0 a0 x1 oa0 M h)
abbrev xX12_drawChild : XX := (yX12_drawChild, cX12_drawChild, 4, (some .boolean), 2, 43, 0, 0)
theorem ck_X12_drawChild_334 : CKV xX12_drawChild 334 xX12_ofChild 2 := ⟨⟨tb_i 1796 (by decide +kernel) (by decide +kernel), tb_i 152 (by decide +kernel) (by decide +kernel), tb_i 1799 (by decide +kernel) (by decide +kernel), ⟨by decide +kernel, by decide +kernel, by decide +kernel⟩, by decide, by decide⟩, tb_i 1798 (by decide +kernel) (by decide +kernel), tb_i 75 (by decide +kernel) (by decide +kernel)⟩
theorem ck_X12_drawChild_381 : CKS xX12_drawChild 381 xX12_lesser 2 := ⟨⟨tb_i 1857 (by decide +kernel) (by decide +kernel), tb_i 152 (by decide +kernel) (by decide +kernel), tb_i 1859 (by decide +kernel) (by decide +kernel), ⟨by decide +kernel, by decide +kernel, by decide +kernel⟩, by decide, by decide⟩, tb_i 1858 (by decide +kernel) (by decide +kernel)⟩
theorem ck_X12_drawChild_627 : CKV xX12_drawChild 627 xX12_draw 1 := ⟨⟨tb_i 2177 (by decide +kernel) (by decide +kernel), tb_i 152 (by decide +kernel) (by decide +kernel), tb_i 2180 (by decide +kernel) (by decide +kernel), ⟨by decide +kernel, by decide +kernel, by decide +kernel⟩, by decide, by decide⟩, tb_i 2179 (by decide +kernel) (by decide +kernel), tb_i 135 (by decide +kernel) (by decide +kernel)⟩
def sX12_drawChild_b86 (a0 : Nat) (x1 : Int) (K21 : Int → Int → MM → Option (Int × MM)) (x2 : Int) (x3 : Int) (M : MM) : Option (Int × MM) := (if wI (M a0 66) = 0 then (some ((1, M))) else ((some (x3 + 1)).bind fun v_2 => (K21 x2 v_2 M)))
def sX12_drawChild_b80 (a0 : Nat) (x1 : Int) (K21 : Int → Int → MM → Option (Int × MM)) (x3 : Int) (a90 : Nat) (x91 : Int) (x92 : Int) (M : MM) : Option (Int × MM) := ((some (mU M a90 66 (x91 - x92))).bind fun M_1 => (sX12_drawChild_b86 a0 x1 K21 0 x3 M_1))
def sX12_drawChild_b21 (a0 : Nat) (x1 : Int)  : Nat → Int → Int → MM → Option (Int × MM)
  | 0, _, _, _ => none
  | n + 1, x2, x3, M => (if wI (M a0 27) ≤ wI x3 then (some ((0, M))) else ((some (mU M a0 65 ((M a0 65) + 1))).bind fun M_2 => ((sX12_draw a0 10 M_2).bind fun q_3 => ((sX12_ofChild a0 x1 2 q_3.2).bind fun q_4 => (if wI q_4 ≤ wI (q_3.1) then (sX12_drawChild_b86 a0 x1 (fun x2 x3 M => sX12_drawChild_b21 a0 x1 n x2 x3 M) x2 x3 q_3.2) else (if wI x2 = 0 then ((sX12_ofChild a0 x1 1 q_3.2).bind fun q_7 => (sX12_drawChild_b80 a0 x1 (fun x2 x3 M => sX12_drawChild_b21 a0 x1 n x2 x3 M) x3 a0 (q_3.2 a0 66) (sX12_lesser (q_3.2 a0 66) q_7) q_3.2)) else (sX12_drawChild_b80 a0 x1 (fun x2 x3 M => sX12_drawChild_b21 a0 x1 n x2 x3 M) x3 a0 (q_3.2 a0 66) 0 q_3.2)))))))
def sX12_drawChild_b18 (a0 : Nat) (x1 : Int)  (x90 : Int) (M : MM) : Option (Int × MM) := (sX12_drawChild_b21 a0 x1 FU x90 0 M)
def sX12_drawChild_b0 (a0 : Nat) (x1 : Int)   (M : MM) : Option (Int × MM) := ((sX12_ofChild a0 x1 0 M).bind fun q_1 => (if wI q_1 < wI (M a0 28) then (sX12_drawChild_b18 a0 x1 0 M) else (sX12_drawChild_b18 a0 x1 1 M)))
def sX12_drawChild (a0 : Nat) (x1 : Int) (M : MM) : Option (Int × MM) := sX12_drawChild_b0 a0 x1 M
set_option maxHeartbeats 4000000 in
set_option maxRecDepth 100000 in
theorem bX12_drawChild_b86 {G : GG} (a0 : Nat) (x1 : Int) (oa0 : OB L0 a0 12) {K21 : Int → Int → MM → Option (Int × MM)} (x2 : Int) (x3 : Int) (M : MM) {res : (Int × MM)} (hK21 : ∀ (x2 : Int) (x3 : Int) (M : MM), K21 x2 x3 M = some res → VV G xX12_drawChild (ZM G xX12_drawChild (some (.int (eI res.1))) L0 res.2) L0 M 0 0 21 [(0, .ref (gA G a0)), (1, .int (eI x1)), (2, .int (eI x2)), (3, .int (eI x3))] [])  (h : sX12_drawChild_b86 a0 x1 K21 x2 x3 M = some res) : VV G xX12_drawChild (ZM G xX12_drawChild (some (.int (eI res.1))) L0 res.2) L0 M 0 0 86 [(0, .ref (gA G a0)), (1, .int (eI x1)), (2, .int (eI x2)), (3, .int (eI x3))] [] := by
  unfold sX12_drawChild_b86 at h
  refine r_aload_n (pc := 86) (i := 0) dX12_drawChild_86 rfl 0 rfl ?_
  refine r_getI (pc := 87) fg_12_630 rfl oa0 dX12_drawChild_87 ?_
  refine r_if_ne (pc := 90) (tgt := 95) dX12_drawChild_90 (by decide) rfl (fun c_1 => ?_) (fun c_1 => ?_)
  · replace h := (if_neg c_1).symm.trans h
    obtain ⟨v_2, hv_2, h⟩ := ob h
    refine r_iinc (pc := 95) (y := v_2) (lv' := [(3, .int (eI v_2)), (0, .ref (gA G a0)), (1, .int (eI x1)), (2, .int (eI x2))]) dX12_drawChild_95 3 rfl (Option.some.inj hv_2) (Nat.le_of_ble_eq_true rfl) rfl ?_
    refine r_goto (pc := 98) (tgt := 21) dX12_drawChild_98 (by decide) ?_
    refine r_sub (lv' := [(0, .ref (gA G a0)), (1, .int (eI x1)), (2, .int (eI x2)), (3, .int (eI v_2))]) [1, 2, 3, 0] rfl ?_
    exact hK21 _ _ _ h
  · replace h := (if_pos c_1).symm.trans h
    refine r_iconst (pc := 93) (v := 1) dX12_drawChild_93 (by decide +kernel) ?_
    cases h
    exact r_iret (pc := 94) rfl (zn_ok (Or.inr rfl)).1 (Nat.le_refl 0) (Nat.le_refl 0) dX12_drawChild_94
set_option maxHeartbeats 4000000 in
set_option maxRecDepth 100000 in
theorem bX12_drawChild_b80 {G : GG} (a0 : Nat) (x1 : Int) (oa0 : OB L0 a0 12) {K21 : Int → Int → MM → Option (Int × MM)} (x3 : Int) (a90 : Nat) (x91 : Int) (x92 : Int) (M : MM) {res : (Int × MM)} (hK21 : ∀ (x2 : Int) (x3 : Int) (M : MM), K21 x2 x3 M = some res → VV G xX12_drawChild (ZM G xX12_drawChild (some (.int (eI res.1))) L0 res.2) L0 M 0 0 21 [(0, .ref (gA G a0)), (1, .int (eI x1)), (2, .int (eI x2)), (3, .int (eI x3))] []) (oa90 : OB L0 a90 12) (h : sX12_drawChild_b80 a0 x1 K21 x3 a90 x91 x92 M = some res) : VV G xX12_drawChild (ZM G xX12_drawChild (some (.int (eI res.1))) L0 res.2) L0 M 0 0 80 [(0, .ref (gA G a0)), (1, .int (eI x1)), (3, .int (eI x3))] [.int (eI x92), .int (eI x91), .ref (gA G a90)] := by
  unfold sX12_drawChild_b80 at h
  refine r_isub (pc := 80) dX12_drawChild_80 ?_
  obtain ⟨M_1, hM_1, h⟩ := ob h
  refine r_putI (pc := 81) fg_12_630 rfl oa90 hM_1 rfl rfl dX12_drawChild_81 ?_
  refine r_iconst (pc := 84) (v := 0) dX12_drawChild_84 (by decide +kernel) ?_
  refine r_istore_n (pc := 85) (i := 2) (lv' := [(2, .int (eI 0)), (0, .ref (gA G a0)), (1, .int (eI x1)), (3, .int (eI x3))]) dX12_drawChild_85 rfl (Nat.le_of_ble_eq_true rfl) rfl ?_
  refine r_sub (lv' := [(0, .ref (gA G a0)), (1, .int (eI x1)), (2, .int (eI 0)), (3, .int (eI x3))]) [1, 2, 0, 3] rfl ?_
  exact bX12_drawChild_b86 a0 x1 oa0 _ _ _ hK21 h
set_option maxHeartbeats 4000000 in
set_option maxRecDepth 100000 in
theorem bX12_drawChild_b21 {G : GG} (a0 : Nat) (x1 : Int) (oa0 : OB L0 a0 12) {res : (Int × MM)} : ∀ (n : Nat) (x2 : Int) (x3 : Int) (M : MM)  (h : sX12_drawChild_b21 a0 x1 n x2 x3 M = some res), VV G xX12_drawChild (ZM G xX12_drawChild (some (.int (eI res.1))) L0 res.2) L0 M 0 0 21 [(0, .ref (gA G a0)), (1, .int (eI x1)), (2, .int (eI x2)), (3, .int (eI x3))] [] := by
  intro n
  induction n with
  | zero =>
    intro x2 x3 M h
    rw [sX12_drawChild_b21] at h
    cases h
  | succ n ih =>
    intro x2 x3 M h
    rw [sX12_drawChild_b21] at h
    refine r_iload_n (pc := 21) (i := 3) dX12_drawChild_21 rfl 3 rfl ?_
    refine r_aload_n (pc := 22) (i := 0) dX12_drawChild_22 rfl 0 rfl ?_
    refine r_getI (pc := 23) fg_12_322 rfl oa0 dX12_drawChild_23 ?_
    refine r_icmp_ge (pc := 26) (tgt := 101) dX12_drawChild_26 (by decide) rfl rfl (fun c_1 => ?_) (fun c_1 => ?_)
    · replace h := (if_pos c_1).symm.trans h
      refine r_iconst (pc := 101) (v := 0) dX12_drawChild_101 (by decide +kernel) ?_
      cases h
      exact r_iret (pc := 102) rfl (zn_ok (Or.inl rfl)).1 (Nat.le_refl 0) (Nat.le_refl 0) dX12_drawChild_102
    · replace h := (if_neg c_1).symm.trans h
      refine r_aload_n (pc := 29) (i := 0) dX12_drawChild_29 rfl 0 rfl ?_
      refine r_dup (pc := 30) dX12_drawChild_30 rfl ?_
      refine r_getI (pc := 31) fg_12_624 rfl oa0 dX12_drawChild_31 ?_
      refine r_iconst (pc := 34) (v := 1) dX12_drawChild_34 (by decide +kernel) ?_
      refine r_iadd (pc := 35) dX12_drawChild_35 ?_
      obtain ⟨M_2, hM_2, h⟩ := ob h
      refine r_putI (pc := 36) fg_12_624 rfl oa0 hM_2 rfl rfl dX12_drawChild_36 ?_
      refine r_aload_n (pc := 39) (i := 0) dX12_drawChild_39 rfl 0 rfl ?_
      refine r_bipush (pc := 40) (v := 10) dX12_drawChild_40 (by decide +kernel) ?_
      obtain ⟨q_3, hq_3, h⟩ := ob h
      refine r_cV (pc := 42) (Y := xX12_draw) (As := [.int (eI 10)]) (rest := []) (v := (some (.int (eI (q_3.1))))) (st1 := [.int (eI (q_3.1))]) ck_X12_drawChild_627 (kX12_draw a0 10 M_2 oa0 hq_3) oa0 rfl rfl rfl rfl (Nat.le_of_ble_eq_true rfl) ⟨rfl, rfl⟩ rfl dX12_drawChild_42 ?_
      refine r_aload_n (pc := 45) (i := 0) dX12_drawChild_45 rfl 0 rfl ?_
      refine r_iload_n (pc := 46) (i := 1) dX12_drawChild_46 rfl 1 rfl ?_
      refine r_iconst (pc := 47) (v := 2) dX12_drawChild_47 (by decide +kernel) ?_
      obtain ⟨q_4, hq_4, h⟩ := ob h
      refine r_cV (pc := 48) (Y := xX12_ofChild) (As := [.int (eI x1), .int (eI 2)]) (rest := [.int (eI (q_3.1))]) (v := (some (.int (eI q_4)))) (st1 := [.int (eI q_4), .int (eI (q_3.1))]) ck_X12_drawChild_334 (kX12_ofChild a0 x1 2 q_3.2 oa0 hq_4) oa0 rfl rfl rfl rfl (Nat.le_of_ble_eq_true rfl) ⟨rfl, rfl⟩ rfl dX12_drawChild_48 ?_
      refine r_icmp_ge (pc := 51) (tgt := 86) dX12_drawChild_51 (by decide) rfl rfl (fun c_5 => ?_) (fun c_5 => ?_)
      · replace h := (if_pos c_5).symm.trans h
        refine r_sub (lv' := [(0, .ref (gA G a0)), (1, .int (eI x1)), (2, .int (eI x2)), (3, .int (eI x3))]) [0, 1, 2, 3] rfl ?_
        exact bX12_drawChild_b86 a0 x1 oa0 _ _ _ (fun v0 v1 v2 v3 => ih v0 v1 v2 v3) h
      · replace h := (if_neg c_5).symm.trans h
        refine r_aload_n (pc := 54) (i := 0) dX12_drawChild_54 rfl 0 rfl ?_
        refine r_dup (pc := 55) dX12_drawChild_55 rfl ?_
        refine r_getI (pc := 56) fg_12_630 rfl oa0 dX12_drawChild_56 ?_
        refine r_iload_n (pc := 59) (i := 2) dX12_drawChild_59 rfl 2 rfl ?_
        refine r_if_eq (pc := 60) (tgt := 67) dX12_drawChild_60 (by decide) rfl (fun c_6 => ?_) (fun c_6 => ?_)
        · replace h := (if_pos c_6).symm.trans h
          refine r_aload_n (pc := 67) (i := 0) dX12_drawChild_67 rfl 0 rfl ?_
          refine r_getI (pc := 68) fg_12_630 rfl oa0 dX12_drawChild_68 ?_
          refine r_aload_n (pc := 71) (i := 0) dX12_drawChild_71 rfl 0 rfl ?_
          refine r_iload_n (pc := 72) (i := 1) dX12_drawChild_72 rfl 1 rfl ?_
          refine r_iconst (pc := 73) (v := 1) dX12_drawChild_73 (by decide +kernel) ?_
          obtain ⟨q_7, hq_7, h⟩ := ob h
          refine r_cV (pc := 74) (Y := xX12_ofChild) (As := [.int (eI x1), .int (eI 1)]) (rest := [.int (eI (q_3.2 a0 66)), .int (eI (q_3.2 a0 66)), .ref (gA G a0)]) (v := (some (.int (eI q_7)))) (st1 := [.int (eI q_7), .int (eI (q_3.2 a0 66)), .int (eI (q_3.2 a0 66)), .ref (gA G a0)]) ck_X12_drawChild_334 (kX12_ofChild a0 x1 1 q_3.2 oa0 hq_7) oa0 rfl rfl rfl rfl (Nat.le_of_ble_eq_true rfl) ⟨rfl, rfl⟩ rfl dX12_drawChild_74 ?_
          refine r_cS (pc := 77) (Y := xX12_lesser) (As := [.int (eI (q_3.2 a0 66)), .int (eI q_7)]) (rest := [.int (eI (q_3.2 a0 66)), .ref (gA G a0)]) (v := (some (.int (eI (sX12_lesser (q_3.2 a0 66) q_7))))) (st1 := [.int (eI (sX12_lesser (q_3.2 a0 66) q_7)), .int (eI (q_3.2 a0 66)), .ref (gA G a0)]) ck_X12_drawChild_381 (kX12_lesser (q_3.2 a0 66) q_7 q_3.2 ) rfl rfl (Nat.le_of_ble_eq_true rfl) ⟨rfl, rfl⟩ rfl dX12_drawChild_77 ?_
          refine r_sub (lv' := [(0, .ref (gA G a0)), (1, .int (eI x1)), (3, .int (eI x3))]) [0, 1, 3] rfl ?_
          exact bX12_drawChild_b80 a0 x1 oa0 _ _ _ _ _ (fun v0 v1 v2 v3 => ih v0 v1 v2 v3) oa0 h
        · replace h := (if_neg c_6).symm.trans h
          refine r_iconst (pc := 63) (v := 0) dX12_drawChild_63 (by decide +kernel) ?_
          refine r_goto (pc := 64) (tgt := 80) dX12_drawChild_64 (by decide) ?_
          refine r_sub (lv' := [(0, .ref (gA G a0)), (1, .int (eI x1)), (3, .int (eI x3))]) [0, 1, 3] rfl ?_
          exact bX12_drawChild_b80 a0 x1 oa0 _ _ _ _ _ (fun v0 v1 v2 v3 => ih v0 v1 v2 v3) oa0 h
set_option maxHeartbeats 4000000 in
set_option maxRecDepth 100000 in
theorem bX12_drawChild_b18 {G : GG} (a0 : Nat) (x1 : Int) (oa0 : OB L0 a0 12) (x90 : Int) (M : MM) {res : (Int × MM)}  (h : sX12_drawChild_b18 a0 x1 x90 M = some res) : VV G xX12_drawChild (ZM G xX12_drawChild (some (.int (eI res.1))) L0 res.2) L0 M 0 0 18 [(0, .ref (gA G a0)), (1, .int (eI x1))] [.int (eI x90)] := by
  unfold sX12_drawChild_b18 at h
  refine r_istore_n (pc := 18) (i := 2) (lv' := [(2, .int (eI x90)), (0, .ref (gA G a0)), (1, .int (eI x1))]) dX12_drawChild_18 rfl (Nat.le_of_ble_eq_true rfl) rfl ?_
  refine r_iconst (pc := 19) (v := 0) dX12_drawChild_19 (by decide +kernel) ?_
  refine r_istore_n (pc := 20) (i := 3) (lv' := [(3, .int (eI 0)), (2, .int (eI x90)), (0, .ref (gA G a0)), (1, .int (eI x1))]) dX12_drawChild_20 rfl (Nat.le_of_ble_eq_true rfl) rfl ?_
  refine r_sub (lv' := [(0, .ref (gA G a0)), (1, .int (eI x1)), (2, .int (eI x90)), (3, .int (eI 0))]) [2, 3, 1, 0] rfl ?_
  exact bX12_drawChild_b21 a0 x1 oa0 _ _ _ _ h
set_option maxHeartbeats 4000000 in
set_option maxRecDepth 100000 in
theorem bX12_drawChild_b0 {G : GG} (a0 : Nat) (x1 : Int) (oa0 : OB L0 a0 12)  (M : MM) {res : (Int × MM)}  (h : sX12_drawChild_b0 a0 x1 M = some res) : VV G xX12_drawChild (ZM G xX12_drawChild (some (.int (eI res.1))) L0 res.2) L0 M 0 0 0 [(0, .ref (gA G a0)), (1, .int (eI x1))] [] := by
  unfold sX12_drawChild_b0 at h
  refine r_aload_n (pc := 0) (i := 0) dX12_drawChild_0 rfl 0 rfl ?_
  refine r_iload_n (pc := 1) (i := 1) dX12_drawChild_1 rfl 1 rfl ?_
  refine r_iconst (pc := 2) (v := 0) dX12_drawChild_2 (by decide +kernel) ?_
  obtain ⟨q_1, hq_1, h⟩ := ob h
  refine r_cV (pc := 3) (Y := xX12_ofChild) (As := [.int (eI x1), .int (eI 0)]) (rest := []) (v := (some (.int (eI q_1)))) (st1 := [.int (eI q_1)]) ck_X12_drawChild_334 (kX12_ofChild a0 x1 0 M oa0 hq_1) oa0 rfl rfl rfl rfl (Nat.le_of_ble_eq_true rfl) ⟨rfl, rfl⟩ rfl dX12_drawChild_3 ?_
  refine r_aload_n (pc := 6) (i := 0) dX12_drawChild_6 rfl 0 rfl ?_
  refine r_getI (pc := 7) fg_12_325 rfl oa0 dX12_drawChild_7 ?_
  refine r_icmp_lt (pc := 10) (tgt := 17) dX12_drawChild_10 (by decide) rfl rfl (fun c_2 => ?_) (fun c_2 => ?_)
  · replace h := (if_pos c_2).symm.trans h
    refine r_iconst (pc := 17) (v := 0) dX12_drawChild_17 (by decide +kernel) ?_
    refine r_sub (lv' := [(0, .ref (gA G a0)), (1, .int (eI x1))]) [0, 1] rfl ?_
    exact bX12_drawChild_b18 a0 x1 oa0 _ _ h
  · replace h := (if_neg c_2).symm.trans h
    refine r_iconst (pc := 13) (v := 1) dX12_drawChild_13 (by decide +kernel) ?_
    refine r_goto (pc := 14) (tgt := 18) dX12_drawChild_14 (by decide) ?_
    refine r_sub (lv' := [(0, .ref (gA G a0)), (1, .int (eI x1))]) [0, 1] rfl ?_
    exact bX12_drawChild_b18 a0 x1 oa0 _ _ h
theorem kX12_drawChild {G : GG} (a0 : Nat) (x1 : Int) (M : MM) {res : (Int × MM)} (oa0 : OB L0 a0 12) (h : sX12_drawChild a0 x1 M = some res) : CO G xX12_drawChild [.ref (gA G a0), .int (eI x1)] L0 M (some (.int (eI res.1))) L0 res.2 := CO_of (by decide +kernel) (Nat.le_of_ble_eq_true rfl) (bX12_drawChild_b0 a0 x1 oa0 M h)
abbrev xX12_cellBy : XX := (yX12_cellBy, cX12_cellBy, 4, (some .int), 4, 83, 0, 0)
theorem ck_X12_cellBy_545 : CKV xX12_cellBy 545 xX12_weightOf 1 := ⟨⟨tb_i 2049 (by decide +kernel) (by decide +kernel), tb_i 152 (by decide +kernel) (by decide +kernel), tb_i 2052 (by decide +kernel) (by decide +kernel), ⟨by decide +kernel, by decide +kernel, by decide +kernel⟩, by decide, by decide⟩, tb_i 2051 (by decide +kernel) (by decide +kernel), tb_i 114 (by decide +kernel) (by decide +kernel)⟩
def sX12_cellBy_b8 (a0 : Nat) (x1 : Int) (M : MM)  : Nat → Int → Int → Option Int
  | 0, _, _ => none
  | n + 1, x2, x3 => (if wI x1 < wI x3 then (some (x2)) else ((some (x2 + 1)).bind fun v_2 => ((sX12_weightOf a0 v_2 M).bind fun q_3 => (sX12_cellBy_b8 a0 x1 M n v_2 (x3 + q_3)))))
def sX12_cellBy_b0 (a0 : Nat) (x1 : Int) (M : MM)   : Option Int := ((sX12_weightOf a0 0 M).bind fun q_1 => (sX12_cellBy_b8 a0 x1 M FU 0 q_1))
def sX12_cellBy (a0 : Nat) (x1 : Int) (M : MM) : Option Int := sX12_cellBy_b0 a0 x1 M
set_option maxHeartbeats 4000000 in
set_option maxRecDepth 100000 in
theorem bX12_cellBy_b8 {G : GG} (a0 : Nat) (x1 : Int) (M : MM) (oa0 : OB L0 a0 12) {res : Int} : ∀ (n : Nat) (x2 : Int) (x3 : Int)  (h : sX12_cellBy_b8 a0 x1 M n x2 x3 = some res), VV G xX12_cellBy (ZM G xX12_cellBy (some (.int (eI res))) L0 M) L0 M 0 0 8 [(0, .ref (gA G a0)), (1, .int (eI x1)), (2, .int (eI x2)), (3, .int (eI x3))] [] := by
  intro n
  induction n with
  | zero =>
    intro x2 x3 h
    rw [sX12_cellBy_b8] at h
    cases h
  | succ n ih =>
    intro x2 x3 h
    rw [sX12_cellBy_b8] at h
    refine r_iload_n (pc := 8) (i := 3) dX12_cellBy_8 rfl 3 rfl ?_
    refine r_iload_n (pc := 9) (i := 1) dX12_cellBy_9 rfl 1 rfl ?_
    refine r_icmp_gt (pc := 10) (tgt := 27) dX12_cellBy_10 (by decide) rfl rfl (fun c_1 => ?_) (fun c_1 => ?_)
    · replace h := (if_pos c_1).symm.trans h
      refine r_iload_n (pc := 27) (i := 2) dX12_cellBy_27 rfl 2 rfl ?_
      cases h
      exact r_iret (pc := 28) rfl rfl (Nat.le_refl 0) (Nat.le_refl 0) dX12_cellBy_28
    · replace h := (if_neg c_1).symm.trans h
      obtain ⟨v_2, hv_2, h⟩ := ob h
      refine r_iinc (pc := 13) (y := v_2) (lv' := [(2, .int (eI v_2)), (0, .ref (gA G a0)), (1, .int (eI x1)), (3, .int (eI x3))]) dX12_cellBy_13 2 rfl (Option.some.inj hv_2) (Nat.le_of_ble_eq_true rfl) rfl ?_
      refine r_iload_n (pc := 16) (i := 3) dX12_cellBy_16 rfl 3 rfl ?_
      refine r_aload_n (pc := 17) (i := 0) dX12_cellBy_17 rfl 1 rfl ?_
      refine r_iload_n (pc := 18) (i := 2) dX12_cellBy_18 rfl 0 rfl ?_
      obtain ⟨q_3, hq_3, h⟩ := ob h
      refine r_cV (pc := 19) (Y := xX12_weightOf) (As := [.int (eI v_2)]) (rest := [.int (eI x3)]) (v := (some (.int (eI q_3)))) (st1 := [.int (eI q_3), .int (eI x3)]) ck_X12_cellBy_545 (kX12_weightOf a0 v_2 M oa0 hq_3) oa0 rfl rfl rfl rfl (Nat.le_of_ble_eq_true rfl) ⟨rfl, rfl⟩ rfl dX12_cellBy_19 ?_
      refine r_iadd (pc := 22) dX12_cellBy_22 ?_
      refine r_istore_n (pc := 23) (i := 3) (lv' := [(3, .int (eI (x3 + q_3))), (2, .int (eI v_2)), (0, .ref (gA G a0)), (1, .int (eI x1))]) dX12_cellBy_23 rfl (Nat.le_of_ble_eq_true rfl) rfl ?_
      refine r_goto (pc := 24) (tgt := 8) dX12_cellBy_24 (by decide) ?_
      refine r_sub (lv' := [(0, .ref (gA G a0)), (1, .int (eI x1)), (2, .int (eI v_2)), (3, .int (eI (x3 + q_3)))]) [2, 3, 1, 0] rfl ?_
      exact ih _ _ h
set_option maxHeartbeats 4000000 in
set_option maxRecDepth 100000 in
theorem bX12_cellBy_b0 {G : GG} (a0 : Nat) (x1 : Int) (M : MM) (oa0 : OB L0 a0 12)  {res : Int}  (h : sX12_cellBy_b0 a0 x1 M = some res) : VV G xX12_cellBy (ZM G xX12_cellBy (some (.int (eI res))) L0 M) L0 M 0 0 0 [(0, .ref (gA G a0)), (1, .int (eI x1))] [] := by
  unfold sX12_cellBy_b0 at h
  refine r_iconst (pc := 0) (v := 0) dX12_cellBy_0 (by decide +kernel) ?_
  refine r_istore_n (pc := 1) (i := 2) (lv' := [(2, .int (eI 0)), (0, .ref (gA G a0)), (1, .int (eI x1))]) dX12_cellBy_1 rfl (Nat.le_of_ble_eq_true rfl) rfl ?_
  refine r_aload_n (pc := 2) (i := 0) dX12_cellBy_2 rfl 1 rfl ?_
  refine r_iconst (pc := 3) (v := 0) dX12_cellBy_3 (by decide +kernel) ?_
  obtain ⟨q_1, hq_1, h⟩ := ob h
  refine r_cV (pc := 4) (Y := xX12_weightOf) (As := [.int (eI 0)]) (rest := []) (v := (some (.int (eI q_1)))) (st1 := [.int (eI q_1)]) ck_X12_cellBy_545 (kX12_weightOf a0 0 M oa0 hq_1) oa0 rfl rfl rfl rfl (Nat.le_of_ble_eq_true rfl) ⟨rfl, rfl⟩ rfl dX12_cellBy_4 ?_
  refine r_istore_n (pc := 7) (i := 3) (lv' := [(3, .int (eI q_1)), (2, .int (eI 0)), (0, .ref (gA G a0)), (1, .int (eI x1))]) dX12_cellBy_7 rfl (Nat.le_of_ble_eq_true rfl) rfl ?_
  refine r_sub (lv' := [(0, .ref (gA G a0)), (1, .int (eI x1)), (2, .int (eI 0)), (3, .int (eI q_1))]) [2, 3, 1, 0] rfl ?_
  exact bX12_cellBy_b8 a0 x1 M oa0 _ _ _ h
theorem kX12_cellBy {G : GG} (a0 : Nat) (x1 : Int) (M : MM) {res : Int} (oa0 : OB L0 a0 12) (h : sX12_cellBy a0 x1 M = some res) : CO G xX12_cellBy [.ref (gA G a0), .int (eI x1)] L0 M (some (.int (eI res))) L0 M := CO_of (by decide +kernel) (Nat.le_of_ble_eq_true rfl) (bX12_cellBy_b0 a0 x1 M oa0 h)
abbrev xX12_drawn : XX := (yX12_drawn, cX12_drawn, 6, (some .int), 5, 106, 0, 0)
theorem ck_X12_drawn_105 : CKS xX12_drawn 105 xX12_in 3 := ⟨⟨tb_i 1622 (by decide +kernel) (by decide +kernel), tb_i 152 (by decide +kernel) (by decide +kernel), tb_i 1624 (by decide +kernel) (by decide +kernel), ⟨by decide +kernel, by decide +kernel, by decide +kernel⟩, by decide, by decide⟩, tb_i 1623 (by decide +kernel) (by decide +kernel)⟩
theorem ck_X12_drawn_313 : CKV xX12_drawn 313 xX12_of 1 := ⟨⟨tb_i 1784 (by decide +kernel) (by decide +kernel), tb_i 152 (by decide +kernel) (by decide +kernel), tb_i 1787 (by decide +kernel) (by decide +kernel), ⟨by decide +kernel, by decide +kernel, by decide +kernel⟩, by decide, by decide⟩, tb_i 1786 (by decide +kernel) (by decide +kernel), tb_i 73 (by decide +kernel) (by decide +kernel)⟩
theorem ck_X12_drawn_409 : CKV xX12_drawn 409 xX12_belly 0 := ⟨⟨tb_i 1820 (by decide +kernel) (by decide +kernel), tb_i 152 (by decide +kernel) (by decide +kernel), tb_i 1823 (by decide +kernel) (by decide +kernel), ⟨by decide +kernel, by decide +kernel, by decide +kernel⟩, by decide, by decide⟩, tb_i 1822 (by decide +kernel) (by decide +kernel), tb_i 79 (by decide +kernel) (by decide +kernel)⟩
theorem ck_X12_drawn_533 : CKV xX12_drawn 533 xX12_layStriker 2 := ⟨⟨tb_i 2020 (by decide +kernel) (by decide +kernel), tb_i 152 (by decide +kernel) (by decide +kernel), tb_i 2023 (by decide +kernel) (by decide +kernel), ⟨by decide +kernel, by decide +kernel, by decide +kernel⟩, by decide, by decide⟩, tb_i 2022 (by decide +kernel) (by decide +kernel), tb_i 110 (by decide +kernel) (by decide +kernel)⟩
theorem ck_X12_drawn_542 : CKV xX12_drawn 542 xX12_picks 1 := ⟨⟨tb_i 2033 (by decide +kernel) (by decide +kernel), tb_i 152 (by decide +kernel) (by decide +kernel), tb_i 2036 (by decide +kernel) (by decide +kernel), ⟨by decide +kernel, by decide +kernel, by decide +kernel⟩, by decide, by decide⟩, tb_i 2035 (by decide +kernel) (by decide +kernel), tb_i 111 (by decide +kernel) (by decide +kernel)⟩
theorem ck_X12_drawn_548 : CKV xX12_drawn 548 xX12_allCells 0 := ⟨⟨tb_i 2045 (by decide +kernel) (by decide +kernel), tb_i 152 (by decide +kernel) (by decide +kernel), tb_i 2048 (by decide +kernel) (by decide +kernel), ⟨by decide +kernel, by decide +kernel, by decide +kernel⟩, by decide, by decide⟩, tb_i 2047 (by decide +kernel) (by decide +kernel), tb_i 113 (by decide +kernel) (by decide +kernel)⟩
theorem ck_X12_drawn_627 : CKV xX12_drawn 627 xX12_draw 1 := ⟨⟨tb_i 2177 (by decide +kernel) (by decide +kernel), tb_i 152 (by decide +kernel) (by decide +kernel), tb_i 2180 (by decide +kernel) (by decide +kernel), ⟨by decide +kernel, by decide +kernel, by decide +kernel⟩, by decide, by decide⟩, tb_i 2179 (by decide +kernel) (by decide +kernel), tb_i 135 (by decide +kernel) (by decide +kernel)⟩
theorem ck_X12_drawn_633 : CKV xX12_drawn 633 xX12_drawChild 1 := ⟨⟨tb_i 2173 (by decide +kernel) (by decide +kernel), tb_i 152 (by decide +kernel) (by decide +kernel), tb_i 2176 (by decide +kernel) (by decide +kernel), ⟨by decide +kernel, by decide +kernel, by decide +kernel⟩, by decide, by decide⟩, tb_i 2175 (by decide +kernel) (by decide +kernel), tb_i 134 (by decide +kernel) (by decide +kernel)⟩
theorem ck_X12_drawn_636 : CKV xX12_drawn 636 xX12_cellBy 1 := ⟨⟨tb_i 2182 (by decide +kernel) (by decide +kernel), tb_i 152 (by decide +kernel) (by decide +kernel), tb_i 2185 (by decide +kernel) (by decide +kernel), ⟨by decide +kernel, by decide +kernel, by decide +kernel⟩, by decide, by decide⟩, tb_i 2184 (by decide +kernel) (by decide +kernel), tb_i 136 (by decide +kernel) (by decide +kernel)⟩
def sX12_drawn_b182 (a0 : Nat) (x1 : Int) (x2 : Int) (x3 : Int)   (M : MM) : Option (Int × MM) := (if wI x3 = 0 then (some (((M a0 58), M))) else (if wI x3 = 1 then (some (((M a0 65), M))) else (if wI x3 = 2 then (some (((M a0 66), M))) else (if 0 ≤ wI (x3 - 10) ∧ wI (x3 - 10) < 8 then (some (((M (gR a0 62) (wI (x3 - 10)).toNat), M))) else none))))
def sX12_drawn_b138 (a0 : Nat) (x1 : Int) (x2 : Int) (x3 : Int)  : Nat → Int → Int → MM → Option (Int × MM)
  | 0, _, _, _ => none
  | n + 1, x4, x5, M => ((sX12_of a0 4 M).bind fun q_1 => (if wI q_1 ≤ wI x5 then (sX12_drawn_b182 a0 x1 x2 x3 M) else (if wI x4 ≤ 0 then (sX12_drawn_b182 a0 x1 x2 x3 M) else ((sX12_draw a0 x4 M).bind fun q_5 => ((sX12_cellBy a0 (q_5.1) q_5.2).bind fun q_6 => ((sX12_picks a0 q_6 q_5.2).bind fun q_7 => (if 0 ≤ wI q_7 ∧ wI q_7 < 8 then (if 0 ≤ wI q_7 ∧ wI q_7 < 8 then ((some (mU q_5.2 (gR a0 62) (wI q_7).toNat ((q_5.2 (gR a0 62) (wI q_7).toNat) + 1))).bind fun M_10 => ((some (x5 + 1)).bind fun v_11 => (sX12_drawn_b138 a0 x1 x2 x3 n x4 v_11 M_10))) else none) else none)))))))
def sX12_drawn_b108 (a0 : Nat) (x1 : Int) (x2 : Int) (x3 : Int)  : Nat → Int → MM → Option (Int × MM)
  | 0, _, _ => none
  | n + 1, x4, M => (if 8 ≤ wI x4 then ((sX12_allCells a0 M).bind fun q_2 => (sX12_drawn_b138 a0 x1 x2 x3 FU q_2 0 M)) else (if 0 ≤ wI x4 ∧ wI x4 < 8 then ((some (mU M (gR a0 62) (wI x4).toNat 0)).bind fun M_5 => ((some (x4 + 1)).bind fun v_6 => (sX12_drawn_b108 a0 x1 x2 x3 n v_6 M_5))) else none))
def sX12_drawn_b105 (a0 : Nat) (x1 : Int) (x2 : Int) (x3 : Int)   (M : MM) : Option (Int × MM) := (sX12_drawn_b108 a0 x1 x2 x3 FU 0 M)
def sX12_drawn_b96 (a0 : Nat) (x1 : Int) (x2 : Int) (x3 : Int) (K63 : Int → MM → Option (Int × MM)) (x4 : Int) (a90 : Nat) (x91 : Int) (M : MM) : Option (Int × MM) := ((some (mU M a90 58 x91)).bind fun M_1 => ((some (x4 + 1)).bind fun v_2 => (K63 v_2 M_1)))
def sX12_drawn_b63 (a0 : Nat) (x1 : Int) (x2 : Int) (x3 : Int)  : Nat → Int → MM → Option (Int × MM)
  | 0, _, _ => none
  | n + 1, x4, M => (if wI (M a0 26) ≤ wI x4 then (sX12_drawn_b105 a0 x1 x2 x3 M) else (if wI (M a0 58) = (-1) then ((sX12_drawChild a0 x4 M).bind fun q_3 => (if wI (q_3.1) = 0 then (sX12_drawn_b96 a0 x1 x2 x3 (fun x4 M => sX12_drawn_b63 a0 x1 x2 x3 n x4 M) x4 a0 (-1) q_3.2) else (sX12_drawn_b96 a0 x1 x2 x3 (fun x4 M => sX12_drawn_b63 a0 x1 x2 x3 n x4 M) x4 a0 x4 q_3.2))) else (sX12_drawn_b105 a0 x1 x2 x3 M)))
def sX12_drawn_b42 (a0 : Nat) (x1 : Int) (x2 : Int) (x3 : Int)   (M : MM) : Option (Int × MM) := ((some (mU M a0 64 x2)).bind fun M_1 => ((some (mU M_1 a0 65 0)).bind fun M_2 => ((sX12_belly a0 M_2).bind fun q_3 => ((some (mU M_2 a0 66 q_3)).bind fun M_4 => (sX12_drawn_b63 a0 x1 x2 x3 FU 0 M_4)))))
def sX12_drawn_b0 (a0 : Nat) (x1 : Int) (x2 : Int) (x3 : Int)   (M : MM) : Option (Int × MM) := ((some (mU M a0 0 0)).bind fun M_1 => ((sX12_layStriker a0 x1 (-1) M_1).bind fun q_2 => (if wI (q_2.1) = 0 then (some (((-2), q_2.2))) else (if wI (sX12_in x3 0 2) = 0 then (if wI (sX12_in x3 10 (9 + (q_2.2 a0 26))) = 0 then (some (((-2), q_2.2))) else (sX12_drawn_b42 a0 x1 x2 x3 q_2.2)) else (sX12_drawn_b42 a0 x1 x2 x3 q_2.2)))))
def sX12_drawn (a0 : Nat) (x1 : Int) (x2 : Int) (x3 : Int) (M : MM) : Option (Int × MM) := sX12_drawn_b0 a0 x1 x2 x3 M
set_option maxHeartbeats 4000000 in
set_option maxRecDepth 100000 in
theorem bX12_drawn_b182 {G : GG} (a0 : Nat) (x1 : Int) (x2 : Int) (x3 : Int) (oa0 : OB L0 a0 12)  (M : MM) {res : (Int × MM)}  (h : sX12_drawn_b182 a0 x1 x2 x3 M = some res) : VV G xX12_drawn (ZM G xX12_drawn (some (.int (eI res.1))) L0 res.2) L0 M 0 0 182 [(0, .ref (gA G a0)), (3, .int (eI x3))] [] := by
  unfold sX12_drawn_b182 at h
  refine r_iload_n (pc := 182) (i := 3) dX12_drawn_182 rfl 1 rfl ?_
  refine r_if_ne (pc := 183) (tgt := 193) dX12_drawn_183 (by decide) rfl (fun c_1 => ?_) (fun c_1 => ?_)
  · replace h := (if_neg c_1).symm.trans h
    refine r_iload_n (pc := 193) (i := 3) dX12_drawn_193 rfl 1 rfl ?_
    refine r_iconst (pc := 194) (v := 1) dX12_drawn_194 (by decide +kernel) ?_
    refine r_icmp_ne (pc := 195) (tgt := 205) dX12_drawn_195 (by decide) rfl wl_1 (fun c_2 => ?_) (fun c_2 => ?_)
    · replace h := (if_neg c_2).symm.trans h
      refine r_iload_n (pc := 205) (i := 3) dX12_drawn_205 rfl 1 rfl ?_
      refine r_iconst (pc := 206) (v := 2) dX12_drawn_206 (by decide +kernel) ?_
      refine r_icmp_ne (pc := 207) (tgt := 217) dX12_drawn_207 (by decide) rfl wl_2 (fun c_3 => ?_) (fun c_3 => ?_)
      · replace h := (if_neg c_3).symm.trans h
        refine r_aload_n (pc := 217) (i := 0) dX12_drawn_217 rfl 0 rfl ?_
        have o_4 := (wt_12_62 oa0).2
        refine r_getR (pc := 218) fg_12_90 rfl oa0 (wt_12_62 oa0).1 dX12_drawn_218 ?_
        refine r_iload_n (pc := 221) (i := 3) dX12_drawn_221 rfl 1 rfl ?_
        refine r_bipush (pc := 222) (v := 10) dX12_drawn_222 (by decide +kernel) ?_
        refine r_isub (pc := 224) dX12_drawn_224 ?_
        obtain ⟨c_5, h⟩ := og h
        refine r_iald (pc := 225) o_4 rfl c_5 rfl dX12_drawn_225 ?_
        cases h
        exact r_iret (pc := 226) rfl rfl (Nat.le_refl 0) (Nat.le_refl 0) dX12_drawn_226
      · replace h := (if_pos c_3).symm.trans h
        refine r_aload_n (pc := 210) (i := 0) dX12_drawn_210 rfl 0 rfl ?_
        refine r_getI (pc := 211) fg_12_630 rfl oa0 dX12_drawn_211 ?_
        refine r_goto (pc := 214) (tgt := 226) dX12_drawn_214 (by decide) ?_
        cases h
        exact r_iret (pc := 226) rfl rfl (Nat.le_refl 0) (Nat.le_refl 0) dX12_drawn_226
    · replace h := (if_pos c_2).symm.trans h
      refine r_aload_n (pc := 198) (i := 0) dX12_drawn_198 rfl 0 rfl ?_
      refine r_getI (pc := 199) fg_12_624 rfl oa0 dX12_drawn_199 ?_
      refine r_goto (pc := 202) (tgt := 226) dX12_drawn_202 (by decide) ?_
      cases h
      exact r_iret (pc := 226) rfl rfl (Nat.le_refl 0) (Nat.le_refl 0) dX12_drawn_226
  · replace h := (if_pos c_1).symm.trans h
    refine r_aload_n (pc := 186) (i := 0) dX12_drawn_186 rfl 0 rfl ?_
    refine r_getI (pc := 187) fg_12_527 rfl oa0 dX12_drawn_187 ?_
    refine r_goto (pc := 190) (tgt := 226) dX12_drawn_190 (by decide) ?_
    cases h
    exact r_iret (pc := 226) rfl rfl (Nat.le_refl 0) (Nat.le_refl 0) dX12_drawn_226
set_option maxHeartbeats 4000000 in
set_option maxRecDepth 100000 in
theorem bX12_drawn_b138 {G : GG} (a0 : Nat) (x1 : Int) (x2 : Int) (x3 : Int) (oa0 : OB L0 a0 12) {res : (Int × MM)} : ∀ (n : Nat) (x4 : Int) (x5 : Int) (M : MM)  (h : sX12_drawn_b138 a0 x1 x2 x3 n x4 x5 M = some res), VV G xX12_drawn (ZM G xX12_drawn (some (.int (eI res.1))) L0 res.2) L0 M 0 0 138 [(0, .ref (gA G a0)), (3, .int (eI x3)), (4, .int (eI x4)), (5, .int (eI x5))] [] := by
  intro n
  induction n with
  | zero =>
    intro x4 x5 M h
    rw [sX12_drawn_b138] at h
    cases h
  | succ n ih =>
    intro x4 x5 M h
    rw [sX12_drawn_b138] at h
    refine r_iload (pc := 138) dX12_drawn_138 3 rfl ?_
    refine r_aload_n (pc := 140) (i := 0) dX12_drawn_140 rfl 0 rfl ?_
    refine r_iconst (pc := 141) (v := 4) dX12_drawn_141 (by decide +kernel) ?_
    obtain ⟨q_1, hq_1, h⟩ := ob h
    refine r_cV (pc := 142) (Y := xX12_of) (As := [.int (eI 4)]) (rest := [.int (eI x5)]) (v := (some (.int (eI q_1)))) (st1 := [.int (eI q_1), .int (eI x5)]) ck_X12_drawn_313 (kX12_of a0 4 M oa0 hq_1) oa0 rfl rfl rfl rfl (Nat.le_of_ble_eq_true rfl) ⟨rfl, rfl⟩ rfl dX12_drawn_142 ?_
    refine r_icmp_ge (pc := 145) (tgt := 182) dX12_drawn_145 (by decide) rfl rfl (fun c_2 => ?_) (fun c_2 => ?_)
    · replace h := (if_pos c_2).symm.trans h
      refine r_sub (lv' := [(0, .ref (gA G a0)), (3, .int (eI x3))]) [0, 1] rfl ?_
      exact bX12_drawn_b182 a0 x1 x2 x3 oa0 _ h
    · replace h := (if_neg c_2).symm.trans h
      refine r_iload (pc := 148) dX12_drawn_148 2 rfl ?_
      refine r_if_le (pc := 150) (tgt := 182) dX12_drawn_150 (by decide) rfl (fun c_3 => ?_) (fun c_3 => ?_)
      · replace h := (if_pos c_3).symm.trans h
        refine r_sub (lv' := [(0, .ref (gA G a0)), (3, .int (eI x3))]) [0, 1] rfl ?_
        exact bX12_drawn_b182 a0 x1 x2 x3 oa0 _ h
      · replace h := (if_neg c_3).symm.trans h
        refine r_aload_n (pc := 153) (i := 0) dX12_drawn_153 rfl 0 rfl ?_
        have o_4 := (wt_12_62 oa0).2
        refine r_getR (pc := 154) fg_12_90 rfl oa0 (wt_12_62 oa0).1 dX12_drawn_154 ?_
        refine r_aload_n (pc := 157) (i := 0) dX12_drawn_157 rfl 0 rfl ?_
        refine r_aload_n (pc := 158) (i := 0) dX12_drawn_158 rfl 0 rfl ?_
        refine r_aload_n (pc := 159) (i := 0) dX12_drawn_159 rfl 0 rfl ?_
        refine r_iload (pc := 160) dX12_drawn_160 2 rfl ?_
        obtain ⟨q_5, hq_5, h⟩ := ob h
        refine r_cV (pc := 162) (Y := xX12_draw) (As := [.int (eI x4)]) (rest := [.ref (gA G a0), .ref (gA G a0), .ref (gA G (gR a0 62))]) (v := (some (.int (eI (q_5.1))))) (st1 := [.int (eI (q_5.1)), .ref (gA G a0), .ref (gA G a0), .ref (gA G (gR a0 62))]) ck_X12_drawn_627 (kX12_draw a0 x4 M oa0 hq_5) oa0 rfl rfl rfl rfl (Nat.le_of_ble_eq_true rfl) ⟨rfl, rfl⟩ rfl dX12_drawn_162 ?_
        obtain ⟨q_6, hq_6, h⟩ := ob h
        refine r_cV (pc := 165) (Y := xX12_cellBy) (As := [.int (eI (q_5.1))]) (rest := [.ref (gA G a0), .ref (gA G (gR a0 62))]) (v := (some (.int (eI q_6)))) (st1 := [.int (eI q_6), .ref (gA G a0), .ref (gA G (gR a0 62))]) ck_X12_drawn_636 (kX12_cellBy a0 (q_5.1) q_5.2 oa0 hq_6) oa0 rfl rfl rfl rfl (Nat.le_of_ble_eq_true rfl) ⟨rfl, rfl⟩ rfl dX12_drawn_165 ?_
        obtain ⟨q_7, hq_7, h⟩ := ob h
        refine r_cV (pc := 168) (Y := xX12_picks) (As := [.int (eI q_6)]) (rest := [.ref (gA G (gR a0 62))]) (v := (some (.int (eI q_7)))) (st1 := [.int (eI q_7), .ref (gA G (gR a0 62))]) ck_X12_drawn_542 (kX12_picks a0 q_6 q_5.2 oa0 hq_7) oa0 rfl rfl rfl rfl (Nat.le_of_ble_eq_true rfl) ⟨rfl, rfl⟩ rfl dX12_drawn_168 ?_
        refine r_dup2 (pc := 171) dX12_drawn_171 rfl rfl ?_
        obtain ⟨c_8, h⟩ := og h
        refine r_iald (pc := 172) o_4 rfl c_8 rfl dX12_drawn_172 ?_
        refine r_iconst (pc := 173) (v := 1) dX12_drawn_173 (by decide +kernel) ?_
        refine r_iadd (pc := 174) dX12_drawn_174 ?_
        obtain ⟨c_9, h⟩ := og h
        obtain ⟨M_10, hM_10, h⟩ := ob h
        refine r_iast (pc := 175) o_4 rfl c_9 rfl hM_10 dX12_drawn_175 ?_
        obtain ⟨v_11, hv_11, h⟩ := ob h
        refine r_iinc (pc := 176) (y := v_11) (lv' := [(5, .int (eI v_11)), (0, .ref (gA G a0)), (3, .int (eI x3)), (4, .int (eI x4))]) dX12_drawn_176 3 rfl (Option.some.inj hv_11) (Nat.le_of_ble_eq_true rfl) rfl ?_
        refine r_goto (pc := 179) (tgt := 138) dX12_drawn_179 (by decide) ?_
        refine r_sub (lv' := [(0, .ref (gA G a0)), (3, .int (eI x3)), (4, .int (eI x4)), (5, .int (eI v_11))]) [1, 2, 3, 0] rfl ?_
        exact ih _ _ _ h
set_option maxHeartbeats 4000000 in
set_option maxRecDepth 100000 in
theorem bX12_drawn_b108 {G : GG} (a0 : Nat) (x1 : Int) (x2 : Int) (x3 : Int) (oa0 : OB L0 a0 12) {res : (Int × MM)} : ∀ (n : Nat) (x4 : Int) (M : MM)  (h : sX12_drawn_b108 a0 x1 x2 x3 n x4 M = some res), VV G xX12_drawn (ZM G xX12_drawn (some (.int (eI res.1))) L0 res.2) L0 M 0 0 108 [(0, .ref (gA G a0)), (3, .int (eI x3)), (4, .int (eI x4))] [] := by
  intro n
  induction n with
  | zero =>
    intro x4 M h
    rw [sX12_drawn_b108] at h
    cases h
  | succ n ih =>
    intro x4 M h
    rw [sX12_drawn_b108] at h
    refine r_iload (pc := 108) dX12_drawn_108 2 rfl ?_
    refine r_bipush (pc := 110) (v := 8) dX12_drawn_110 (by decide +kernel) ?_
    refine r_icmp_ge (pc := 112) (tgt := 129) dX12_drawn_112 (by decide) rfl wl_8 (fun c_1 => ?_) (fun c_1 => ?_)
    · replace h := (if_pos c_1).symm.trans h
      refine r_aload_n (pc := 129) (i := 0) dX12_drawn_129 rfl 0 rfl ?_
      obtain ⟨q_2, hq_2, h⟩ := ob h
      refine r_cV (pc := 130) (Y := xX12_allCells) (As := []) (rest := []) (v := (some (.int (eI q_2)))) (st1 := [.int (eI q_2)]) ck_X12_drawn_548 (kX12_allCells a0 M oa0 hq_2) oa0 rfl rfl rfl rfl (Nat.le_of_ble_eq_true rfl) ⟨rfl, rfl⟩ rfl dX12_drawn_130 ?_
      refine r_istore (pc := 133) (lv' := [(4, .int (eI q_2)), (0, .ref (gA G a0)), (3, .int (eI x3))]) dX12_drawn_133 (Nat.le_of_ble_eq_true rfl) rfl ?_
      refine r_iconst (pc := 135) (v := 0) dX12_drawn_135 (by decide +kernel) ?_
      refine r_istore (pc := 136) (lv' := [(5, .int (eI 0)), (4, .int (eI q_2)), (0, .ref (gA G a0)), (3, .int (eI x3))]) dX12_drawn_136 (Nat.le_of_ble_eq_true rfl) rfl ?_
      refine r_sub (lv' := [(0, .ref (gA G a0)), (3, .int (eI x3)), (4, .int (eI q_2)), (5, .int (eI 0))]) [2, 3, 1, 0] rfl ?_
      exact bX12_drawn_b138 a0 x1 x2 x3 oa0 _ _ _ _ h
    · replace h := (if_neg c_1).symm.trans h
      refine r_aload_n (pc := 115) (i := 0) dX12_drawn_115 rfl 0 rfl ?_
      have o_3 := (wt_12_62 oa0).2
      refine r_getR (pc := 116) fg_12_90 rfl oa0 (wt_12_62 oa0).1 dX12_drawn_116 ?_
      refine r_iload (pc := 119) dX12_drawn_119 2 rfl ?_
      refine r_iconst (pc := 121) (v := 0) dX12_drawn_121 (by decide +kernel) ?_
      obtain ⟨c_4, h⟩ := og h
      obtain ⟨M_5, hM_5, h⟩ := ob h
      refine r_iast (pc := 122) o_3 rfl c_4 rfl hM_5 dX12_drawn_122 ?_
      obtain ⟨v_6, hv_6, h⟩ := ob h
      refine r_iinc (pc := 123) (y := v_6) (lv' := [(4, .int (eI v_6)), (0, .ref (gA G a0)), (3, .int (eI x3))]) dX12_drawn_123 2 rfl (Option.some.inj hv_6) (Nat.le_of_ble_eq_true rfl) rfl ?_
      refine r_goto (pc := 126) (tgt := 108) dX12_drawn_126 (by decide) ?_
      refine r_sub (lv' := [(0, .ref (gA G a0)), (3, .int (eI x3)), (4, .int (eI v_6))]) [1, 2, 0] rfl ?_
      exact ih _ _ h
set_option maxHeartbeats 4000000 in
set_option maxRecDepth 100000 in
theorem bX12_drawn_b105 {G : GG} (a0 : Nat) (x1 : Int) (x2 : Int) (x3 : Int) (oa0 : OB L0 a0 12)  (M : MM) {res : (Int × MM)}  (h : sX12_drawn_b105 a0 x1 x2 x3 M = some res) : VV G xX12_drawn (ZM G xX12_drawn (some (.int (eI res.1))) L0 res.2) L0 M 0 0 105 [(0, .ref (gA G a0)), (3, .int (eI x3))] [] := by
  unfold sX12_drawn_b105 at h
  refine r_iconst (pc := 105) (v := 0) dX12_drawn_105 (by decide +kernel) ?_
  refine r_istore (pc := 106) (lv' := [(4, .int (eI 0)), (0, .ref (gA G a0)), (3, .int (eI x3))]) dX12_drawn_106 (Nat.le_of_ble_eq_true rfl) rfl ?_
  refine r_sub (lv' := [(0, .ref (gA G a0)), (3, .int (eI x3)), (4, .int (eI 0))]) [1, 2, 0] rfl ?_
  exact bX12_drawn_b108 a0 x1 x2 x3 oa0 _ _ _ h
set_option maxHeartbeats 4000000 in
set_option maxRecDepth 100000 in
theorem bX12_drawn_b96 {G : GG} (a0 : Nat) (x1 : Int) (x2 : Int) (x3 : Int) (oa0 : OB L0 a0 12) {K63 : Int → MM → Option (Int × MM)} (x4 : Int) (a90 : Nat) (x91 : Int) (M : MM) {res : (Int × MM)} (hK63 : ∀ (x4 : Int) (M : MM), K63 x4 M = some res → VV G xX12_drawn (ZM G xX12_drawn (some (.int (eI res.1))) L0 res.2) L0 M 0 0 63 [(0, .ref (gA G a0)), (3, .int (eI x3)), (4, .int (eI x4))] []) (oa90 : OB L0 a90 12) (h : sX12_drawn_b96 a0 x1 x2 x3 K63 x4 a90 x91 M = some res) : VV G xX12_drawn (ZM G xX12_drawn (some (.int (eI res.1))) L0 res.2) L0 M 0 0 96 [(0, .ref (gA G a0)), (3, .int (eI x3)), (4, .int (eI x4))] [.int (eI x91), .ref (gA G a90)] := by
  unfold sX12_drawn_b96 at h
  obtain ⟨M_1, hM_1, h⟩ := ob h
  refine r_putI (pc := 96) fg_12_527 rfl oa90 hM_1 rfl rfl dX12_drawn_96 ?_
  obtain ⟨v_2, hv_2, h⟩ := ob h
  refine r_iinc (pc := 99) (y := v_2) (lv' := [(4, .int (eI v_2)), (0, .ref (gA G a0)), (3, .int (eI x3))]) dX12_drawn_99 2 rfl (Option.some.inj hv_2) (Nat.le_of_ble_eq_true rfl) rfl ?_
  refine r_goto (pc := 102) (tgt := 63) dX12_drawn_102 (by decide) ?_
  refine r_sub (lv' := [(0, .ref (gA G a0)), (3, .int (eI x3)), (4, .int (eI v_2))]) [1, 2, 0] rfl ?_
  exact hK63 _ _ h
set_option maxHeartbeats 4000000 in
set_option maxRecDepth 100000 in
theorem bX12_drawn_b63 {G : GG} (a0 : Nat) (x1 : Int) (x2 : Int) (x3 : Int) (oa0 : OB L0 a0 12) {res : (Int × MM)} : ∀ (n : Nat) (x4 : Int) (M : MM)  (h : sX12_drawn_b63 a0 x1 x2 x3 n x4 M = some res), VV G xX12_drawn (ZM G xX12_drawn (some (.int (eI res.1))) L0 res.2) L0 M 0 0 63 [(0, .ref (gA G a0)), (3, .int (eI x3)), (4, .int (eI x4))] [] := by
  intro n
  induction n with
  | zero =>
    intro x4 M h
    rw [sX12_drawn_b63] at h
    cases h
  | succ n ih =>
    intro x4 M h
    rw [sX12_drawn_b63] at h
    refine r_iload (pc := 63) dX12_drawn_63 2 rfl ?_
    refine r_aload_n (pc := 65) (i := 0) dX12_drawn_65 rfl 0 rfl ?_
    refine r_getI (pc := 66) fg_12_319 rfl oa0 dX12_drawn_66 ?_
    refine r_icmp_ge (pc := 69) (tgt := 105) dX12_drawn_69 (by decide) rfl rfl (fun c_1 => ?_) (fun c_1 => ?_)
    · replace h := (if_pos c_1).symm.trans h
      refine r_sub (lv' := [(0, .ref (gA G a0)), (3, .int (eI x3))]) [0, 1] rfl ?_
      exact bX12_drawn_b105 a0 x1 x2 x3 oa0 _ h
    · replace h := (if_neg c_1).symm.trans h
      refine r_aload_n (pc := 72) (i := 0) dX12_drawn_72 rfl 0 rfl ?_
      refine r_getI (pc := 73) fg_12_527 rfl oa0 dX12_drawn_73 ?_
      refine r_iconst (pc := 76) (v := (-1)) dX12_drawn_76 (by decide +kernel) ?_
      refine r_icmp_ne (pc := 77) (tgt := 105) dX12_drawn_77 (by decide) rfl wl_m1 (fun c_2 => ?_) (fun c_2 => ?_)
      · replace h := (if_neg c_2).symm.trans h
        refine r_sub (lv' := [(0, .ref (gA G a0)), (3, .int (eI x3))]) [0, 1] rfl ?_
        exact bX12_drawn_b105 a0 x1 x2 x3 oa0 _ h
      · replace h := (if_pos c_2).symm.trans h
        refine r_aload_n (pc := 80) (i := 0) dX12_drawn_80 rfl 0 rfl ?_
        refine r_aload_n (pc := 81) (i := 0) dX12_drawn_81 rfl 0 rfl ?_
        refine r_iload (pc := 82) dX12_drawn_82 2 rfl ?_
        obtain ⟨q_3, hq_3, h⟩ := ob h
        refine r_cV (pc := 84) (Y := xX12_drawChild) (As := [.int (eI x4)]) (rest := [.ref (gA G a0)]) (v := (some (.int (eI (q_3.1))))) (st1 := [.int (eI (q_3.1)), .ref (gA G a0)]) ck_X12_drawn_633 (kX12_drawChild a0 x4 M oa0 hq_3) oa0 rfl rfl rfl rfl (Nat.le_of_ble_eq_true rfl) ⟨rfl, rfl⟩ rfl dX12_drawn_84 ?_
        refine r_if_eq (pc := 87) (tgt := 95) dX12_drawn_87 (by decide) rfl (fun c_4 => ?_) (fun c_4 => ?_)
        · replace h := (if_pos c_4).symm.trans h
          refine r_iconst (pc := 95) (v := (-1)) dX12_drawn_95 (by decide +kernel) ?_
          refine r_sub (lv' := [(0, .ref (gA G a0)), (3, .int (eI x3)), (4, .int (eI x4))]) [0, 1, 2] rfl ?_
          exact bX12_drawn_b96 a0 x1 x2 x3 oa0 _ _ _ _ (fun v0 v1 v2 => ih v0 v1 v2) oa0 h
        · replace h := (if_neg c_4).symm.trans h
          refine r_iload (pc := 90) dX12_drawn_90 2 rfl ?_
          refine r_goto (pc := 92) (tgt := 96) dX12_drawn_92 (by decide) ?_
          refine r_sub (lv' := [(0, .ref (gA G a0)), (3, .int (eI x3)), (4, .int (eI x4))]) [0, 1, 2] rfl ?_
          exact bX12_drawn_b96 a0 x1 x2 x3 oa0 _ _ _ _ (fun v0 v1 v2 => ih v0 v1 v2) oa0 h
set_option maxHeartbeats 4000000 in
set_option maxRecDepth 100000 in
theorem bX12_drawn_b42 {G : GG} (a0 : Nat) (x1 : Int) (x2 : Int) (x3 : Int) (oa0 : OB L0 a0 12)  (M : MM) {res : (Int × MM)}  (h : sX12_drawn_b42 a0 x1 x2 x3 M = some res) : VV G xX12_drawn (ZM G xX12_drawn (some (.int (eI res.1))) L0 res.2) L0 M 0 0 42 [(0, .ref (gA G a0)), (2, .int (eI x2)), (3, .int (eI x3))] [] := by
  unfold sX12_drawn_b42 at h
  refine r_aload_n (pc := 42) (i := 0) dX12_drawn_42 rfl 0 rfl ?_
  refine r_iload_n (pc := 43) (i := 2) dX12_drawn_43 rfl 1 rfl ?_
  obtain ⟨M_1, hM_1, h⟩ := ob h
  refine r_putI (pc := 44) fg_12_620 rfl oa0 hM_1 rfl rfl dX12_drawn_44 ?_
  refine r_aload_n (pc := 47) (i := 0) dX12_drawn_47 rfl 0 rfl ?_
  refine r_iconst (pc := 48) (v := 0) dX12_drawn_48 (by decide +kernel) ?_
  obtain ⟨M_2, hM_2, h⟩ := ob h
  refine r_putI (pc := 49) fg_12_624 rfl oa0 hM_2 rfl rfl dX12_drawn_49 ?_
  refine r_aload_n (pc := 52) (i := 0) dX12_drawn_52 rfl 0 rfl ?_
  refine r_aload_n (pc := 53) (i := 0) dX12_drawn_53 rfl 0 rfl ?_
  obtain ⟨q_3, hq_3, h⟩ := ob h
  refine r_cV (pc := 54) (Y := xX12_belly) (As := []) (rest := [.ref (gA G a0)]) (v := (some (.int (eI q_3)))) (st1 := [.int (eI q_3), .ref (gA G a0)]) ck_X12_drawn_409 (kX12_belly a0 M_2 oa0 hq_3) oa0 rfl rfl rfl rfl (Nat.le_of_ble_eq_true rfl) ⟨rfl, rfl⟩ rfl dX12_drawn_54 ?_
  obtain ⟨M_4, hM_4, h⟩ := ob h
  refine r_putI (pc := 57) fg_12_630 rfl oa0 hM_4 rfl rfl dX12_drawn_57 ?_
  refine r_iconst (pc := 60) (v := 0) dX12_drawn_60 (by decide +kernel) ?_
  refine r_istore (pc := 61) (lv' := [(4, .int (eI 0)), (0, .ref (gA G a0)), (2, .int (eI x2)), (3, .int (eI x3))]) dX12_drawn_61 (Nat.le_of_ble_eq_true rfl) rfl ?_
  refine r_sub (lv' := [(0, .ref (gA G a0)), (3, .int (eI x3)), (4, .int (eI 0))]) [1, 3, 0] rfl ?_
  exact bX12_drawn_b63 a0 x1 x2 x3 oa0 _ _ _ h
set_option maxHeartbeats 4000000 in
set_option maxRecDepth 100000 in
theorem bX12_drawn_b0 {G : GG} (a0 : Nat) (x1 : Int) (x2 : Int) (x3 : Int) (oa0 : OB L0 a0 12)  (M : MM) {res : (Int × MM)}  (h : sX12_drawn_b0 a0 x1 x2 x3 M = some res) : VV G xX12_drawn (ZM G xX12_drawn (some (.int (eI res.1))) L0 res.2) L0 M 0 0 0 [(0, .ref (gA G a0)), (1, .int (eI x1)), (2, .int (eI x2)), (3, .int (eI x3))] [] := by
  unfold sX12_drawn_b0 at h
  refine r_aload_n (pc := 0) (i := 0) dX12_drawn_0 rfl 0 rfl ?_
  refine r_iconst (pc := 1) (v := 0) dX12_drawn_1 (by decide +kernel) ?_
  obtain ⟨M_1, hM_1, h⟩ := ob h
  refine r_putI (pc := 2) fg_12_97 rfl oa0 hM_1 rfl rfl dX12_drawn_2 ?_
  refine r_aload_n (pc := 5) (i := 0) dX12_drawn_5 rfl 0 rfl ?_
  refine r_iload_n (pc := 6) (i := 1) dX12_drawn_6 rfl 1 rfl ?_
  refine r_iconst (pc := 7) (v := (-1)) dX12_drawn_7 (by decide +kernel) ?_
  obtain ⟨q_2, hq_2, h⟩ := ob h
  refine r_cV (pc := 8) (Y := xX12_layStriker) (As := [.int (eI x1), .int (eI (-1))]) (rest := []) (v := (some (.int (eI (q_2.1))))) (st1 := [.int (eI (q_2.1))]) ck_X12_drawn_533 (kX12_layStriker a0 x1 (-1) M_1 oa0 hq_2) oa0 rfl rfl rfl rfl (Nat.le_of_ble_eq_true rfl) ⟨rfl, rfl⟩ rfl dX12_drawn_8 ?_
  refine r_if_eq (pc := 11) (tgt := 39) dX12_drawn_11 (by decide) rfl (fun c_3 => ?_) (fun c_3 => ?_)
  · replace h := (if_pos c_3).symm.trans h
    refine r_bipush (pc := 39) (v := (-2)) dX12_drawn_39 (by decide +kernel) ?_
    cases h
    exact r_iret (pc := 41) rfl rfl (Nat.le_refl 0) (Nat.le_refl 0) dX12_drawn_41
  · replace h := (if_neg c_3).symm.trans h
    refine r_iload_n (pc := 14) (i := 3) dX12_drawn_14 rfl 3 rfl ?_
    refine r_iconst (pc := 15) (v := 0) dX12_drawn_15 (by decide +kernel) ?_
    refine r_iconst (pc := 16) (v := 2) dX12_drawn_16 (by decide +kernel) ?_
    refine r_cS (pc := 17) (Y := xX12_in) (As := [.int (eI x3), .int (eI 0), .int (eI 2)]) (rest := []) (v := (some (.int (eI (sX12_in x3 0 2))))) (st1 := [.int (eI (sX12_in x3 0 2))]) ck_X12_drawn_105 (kX12_in x3 0 2 q_2.2 ) rfl rfl (Nat.le_of_ble_eq_true rfl) ⟨rfl, rfl⟩ rfl dX12_drawn_17 ?_
    refine r_if_ne (pc := 20) (tgt := 42) dX12_drawn_20 (by decide) rfl (fun c_4 => ?_) (fun c_4 => ?_)
    · replace h := (if_neg c_4).symm.trans h
      refine r_sub (lv' := [(0, .ref (gA G a0)), (2, .int (eI x2)), (3, .int (eI x3))]) [0, 2, 3] rfl ?_
      exact bX12_drawn_b42 a0 x1 x2 x3 oa0 _ h
    · replace h := (if_pos c_4).symm.trans h
      refine r_iload_n (pc := 23) (i := 3) dX12_drawn_23 rfl 3 rfl ?_
      refine r_bipush (pc := 24) (v := 10) dX12_drawn_24 (by decide +kernel) ?_
      refine r_bipush (pc := 26) (v := 9) dX12_drawn_26 (by decide +kernel) ?_
      refine r_aload_n (pc := 28) (i := 0) dX12_drawn_28 rfl 0 rfl ?_
      refine r_getI (pc := 29) fg_12_319 rfl oa0 dX12_drawn_29 ?_
      refine r_iadd (pc := 32) dX12_drawn_32 ?_
      refine r_cS (pc := 33) (Y := xX12_in) (As := [.int (eI x3), .int (eI 10), .int (eI (9 + (q_2.2 a0 26)))]) (rest := []) (v := (some (.int (eI (sX12_in x3 10 (9 + (q_2.2 a0 26))))))) (st1 := [.int (eI (sX12_in x3 10 (9 + (q_2.2 a0 26))))]) ck_X12_drawn_105 (kX12_in x3 10 (9 + (q_2.2 a0 26)) q_2.2 ) rfl rfl (Nat.le_of_ble_eq_true rfl) ⟨rfl, rfl⟩ rfl dX12_drawn_33 ?_
      refine r_if_ne (pc := 36) (tgt := 42) dX12_drawn_36 (by decide) rfl (fun c_5 => ?_) (fun c_5 => ?_)
      · replace h := (if_neg c_5).symm.trans h
        refine r_sub (lv' := [(0, .ref (gA G a0)), (2, .int (eI x2)), (3, .int (eI x3))]) [0, 2, 3] rfl ?_
        exact bX12_drawn_b42 a0 x1 x2 x3 oa0 _ h
      · replace h := (if_pos c_5).symm.trans h
        refine r_bipush (pc := 39) (v := (-2)) dX12_drawn_39 (by decide +kernel) ?_
        cases h
        exact r_iret (pc := 41) rfl rfl (Nat.le_refl 0) (Nat.le_refl 0) dX12_drawn_41
theorem kX12_drawn {G : GG} (a0 : Nat) (x1 : Int) (x2 : Int) (x3 : Int) (M : MM) {res : (Int × MM)} (oa0 : OB L0 a0 12) (h : sX12_drawn a0 x1 x2 x3 M = some res) : CO G xX12_drawn [.ref (gA G a0), .int (eI x1), .int (eI x2), .int (eI x3)] L0 M (some (.int (eI res.1))) L0 res.2 := CO_of (by decide +kernel) (Nat.le_of_ble_eq_true rfl) (bX12_drawn_b0 a0 x1 x2 x3 oa0 M h)
abbrev xX12_count : XX := (yX12_count, cX12_count, 2, (some .int), 1, 22, 0, 0)
theorem ck_X12_count_105 : CKS xX12_count 105 xX12_in 3 := ⟨⟨tb_i 1622 (by decide +kernel) (by decide +kernel), tb_i 152 (by decide +kernel) (by decide +kernel), tb_i 1624 (by decide +kernel) (by decide +kernel), ⟨by decide +kernel, by decide +kernel, by decide +kernel⟩, by decide, by decide⟩, tb_i 1623 (by decide +kernel) (by decide +kernel)⟩
def sX12_count_b0 (a0 : Nat) (x1 : Int)   (M : MM) : Option (Int × MM) := ((some (mU M a0 0 0)).bind fun M_1 => (if wI (sX12_in x1 0 4) = 0 then (some (((-2), M_1))) else (if 0 ≤ wI x1 ∧ wI x1 < 20 then (some (((M_1 (gR a0 5) (wI x1).toNat), M_1))) else none)))
def sX12_count (a0 : Nat) (x1 : Int) (M : MM) : Option (Int × MM) := sX12_count_b0 a0 x1 M
set_option maxHeartbeats 4000000 in
set_option maxRecDepth 100000 in
theorem bX12_count_b0 {G : GG} (a0 : Nat) (x1 : Int) (oa0 : OB L0 a0 12)  (M : MM) {res : (Int × MM)}  (h : sX12_count_b0 a0 x1 M = some res) : VV G xX12_count (ZM G xX12_count (some (.int (eI res.1))) L0 res.2) L0 M 0 0 0 [(0, .ref (gA G a0)), (1, .int (eI x1))] [] := by
  unfold sX12_count_b0 at h
  refine r_aload_n (pc := 0) (i := 0) dX12_count_0 rfl 0 rfl ?_
  refine r_iconst (pc := 1) (v := 0) dX12_count_1 (by decide +kernel) ?_
  obtain ⟨M_1, hM_1, h⟩ := ob h
  refine r_putI (pc := 2) fg_12_97 rfl oa0 hM_1 rfl rfl dX12_count_2 ?_
  refine r_iload_n (pc := 5) (i := 1) dX12_count_5 rfl 1 rfl ?_
  refine r_iconst (pc := 6) (v := 0) dX12_count_6 (by decide +kernel) ?_
  refine r_iconst (pc := 7) (v := 4) dX12_count_7 (by decide +kernel) ?_
  refine r_cS (pc := 8) (Y := xX12_in) (As := [.int (eI x1), .int (eI 0), .int (eI 4)]) (rest := []) (v := (some (.int (eI (sX12_in x1 0 4))))) (st1 := [.int (eI (sX12_in x1 0 4))]) ck_X12_count_105 (kX12_in x1 0 4 M_1 ) rfl rfl (Nat.le_of_ble_eq_true rfl) ⟨rfl, rfl⟩ rfl dX12_count_8 ?_
  refine r_if_eq (pc := 11) (tgt := 23) dX12_count_11 (by decide) rfl (fun c_2 => ?_) (fun c_2 => ?_)
  · replace h := (if_pos c_2).symm.trans h
    refine r_bipush (pc := 23) (v := (-2)) dX12_count_23 (by decide +kernel) ?_
    cases h
    exact r_iret (pc := 25) rfl rfl (Nat.le_refl 0) (Nat.le_refl 0) dX12_count_25
  · replace h := (if_neg c_2).symm.trans h
    refine r_aload_n (pc := 14) (i := 0) dX12_count_14 rfl 0 rfl ?_
    have o_3 := (wt_12_5 oa0).2
    refine r_getR (pc := 15) fg_12_23 rfl oa0 (wt_12_5 oa0).1 dX12_count_15 ?_
    refine r_iload_n (pc := 18) (i := 1) dX12_count_18 rfl 1 rfl ?_
    obtain ⟨c_4, h⟩ := og h
    refine r_iald (pc := 19) o_3 rfl c_4 rfl dX12_count_19 ?_
    refine r_goto (pc := 20) (tgt := 25) dX12_count_20 (by decide) ?_
    cases h
    exact r_iret (pc := 25) rfl rfl (Nat.le_refl 0) (Nat.le_refl 0) dX12_count_25
theorem kX12_count {G : GG} (a0 : Nat) (x1 : Int) (M : MM) {res : (Int × MM)} (oa0 : OB L0 a0 12) (h : sX12_count a0 x1 M = some res) : CO G xX12_count [.ref (gA G a0), .int (eI x1)] L0 M (some (.int (eI res.1))) L0 res.2 := CO_of (by decide +kernel) (Nat.le_of_ble_eq_true rfl) (bX12_count_b0 a0 x1 oa0 M h)
abbrev xX12_image : XX := (yX12_image, cX12_image, 2, (some .boolean), 2, 47, 0, 0)
theorem ck_X12_image_105 : CKS xX12_image 105 xX12_in 3 := ⟨⟨tb_i 1622 (by decide +kernel) (by decide +kernel), tb_i 152 (by decide +kernel) (by decide +kernel), tb_i 1624 (by decide +kernel) (by decide +kernel), ⟨by decide +kernel, by decide +kernel, by decide +kernel⟩, by decide, by decide⟩, tb_i 1623 (by decide +kernel) (by decide +kernel)⟩
theorem ck_X12_image_639 : CKV xX12_image 639 xX12_copyAll 2 := ⟨⟨tb_i 2194 (by decide +kernel) (by decide +kernel), tb_i 152 (by decide +kernel) (by decide +kernel), tb_i 2197 (by decide +kernel) (by decide +kernel), ⟨by decide +kernel, by decide +kernel, by decide +kernel⟩, by decide, by decide⟩, tb_i 2196 (by decide +kernel) (by decide +kernel), tb_i 137 (by decide +kernel) (by decide +kernel)⟩
def sX12_image_b0 (a0 : Nat) (x1 : Int)   (M : MM) : Option (Int × MM) := ((some (mU M a0 0 0)).bind fun M_1 => (if wI (sX12_in x1 0 2) = 0 then (some ((0, M_1))) else ((sX12_copyAll a0 0 (x1 + 1) M_1).bind fun q_3 => (if 0 ≤ wI x1 ∧ wI x1 < 3 then ((some (mU q_3 (gR a0 67) (wI x1).toNat 1)).bind fun M_6 => (some ((1, M_6)))) else none))))
def sX12_image (a0 : Nat) (x1 : Int) (M : MM) : Option (Int × MM) := sX12_image_b0 a0 x1 M
set_option maxHeartbeats 4000000 in
set_option maxRecDepth 100000 in
theorem bX12_image_b0 {G : GG} (a0 : Nat) (x1 : Int) (oa0 : OB L0 a0 12)  (M : MM) {res : (Int × MM)}  (h : sX12_image_b0 a0 x1 M = some res) : VV G xX12_image (ZM G xX12_image (some (.int (eI res.1))) L0 res.2) L0 M 0 0 0 [(0, .ref (gA G a0)), (1, .int (eI x1))] [] := by
  unfold sX12_image_b0 at h
  refine r_aload_n (pc := 0) (i := 0) dX12_image_0 rfl 0 rfl ?_
  refine r_iconst (pc := 1) (v := 0) dX12_image_1 (by decide +kernel) ?_
  obtain ⟨M_1, hM_1, h⟩ := ob h
  refine r_putI (pc := 2) fg_12_97 rfl oa0 hM_1 rfl rfl dX12_image_2 ?_
  refine r_iload_n (pc := 5) (i := 1) dX12_image_5 rfl 1 rfl ?_
  refine r_iconst (pc := 6) (v := 0) dX12_image_6 (by decide +kernel) ?_
  refine r_iconst (pc := 7) (v := 2) dX12_image_7 (by decide +kernel) ?_
  refine r_cS (pc := 8) (Y := xX12_in) (As := [.int (eI x1), .int (eI 0), .int (eI 2)]) (rest := []) (v := (some (.int (eI (sX12_in x1 0 2))))) (st1 := [.int (eI (sX12_in x1 0 2))]) ck_X12_image_105 (kX12_in x1 0 2 M_1 ) rfl rfl (Nat.le_of_ble_eq_true rfl) ⟨rfl, rfl⟩ rfl dX12_image_8 ?_
  refine r_if_ne (pc := 11) (tgt := 16) dX12_image_11 (by decide) rfl (fun c_2 => ?_) (fun c_2 => ?_)
  · replace h := (if_neg c_2).symm.trans h
    refine r_aload_n (pc := 16) (i := 0) dX12_image_16 rfl 0 rfl ?_
    refine r_iconst (pc := 17) (v := 0) dX12_image_17 (by decide +kernel) ?_
    refine r_iload_n (pc := 18) (i := 1) dX12_image_18 rfl 1 rfl ?_
    refine r_iconst (pc := 19) (v := 1) dX12_image_19 (by decide +kernel) ?_
    refine r_iadd (pc := 20) dX12_image_20 ?_
    obtain ⟨q_3, hq_3, h⟩ := ob h
    refine r_cV (pc := 21) (Y := xX12_copyAll) (As := [.int (eI 0), .int (eI (x1 + 1))]) (rest := []) (v := none) (st1 := []) ck_X12_image_639 (kX12_copyAll a0 0 (x1 + 1) M_1 oa0 hq_3) oa0 rfl rfl rfl rfl (Nat.le_of_ble_eq_true rfl) ⟨rfl, rfl⟩ rfl dX12_image_21 ?_
    refine r_aload_n (pc := 24) (i := 0) dX12_image_24 rfl 0 rfl ?_
    have o_4 := (wt_12_67 oa0).2
    refine r_getR (pc := 25) fg_12_93 rfl oa0 (wt_12_67 oa0).1 dX12_image_25 ?_
    refine r_iload_n (pc := 28) (i := 1) dX12_image_28 rfl 1 rfl ?_
    refine r_iconst (pc := 29) (v := 1) dX12_image_29 (by decide +kernel) ?_
    obtain ⟨c_5, h⟩ := og h
    obtain ⟨M_6, hM_6, h⟩ := ob h
    refine r_zast (pc := 30) o_4 rfl c_5 rfl hM_6 (by decide +kernel) dX12_image_30 ?_
    refine r_iconst (pc := 31) (v := 1) dX12_image_31 (by decide +kernel) ?_
    cases h
    exact r_iret (pc := 32) rfl (zn_ok (Or.inr rfl)).1 (Nat.le_refl 0) (Nat.le_refl 0) dX12_image_32
  · replace h := (if_pos c_2).symm.trans h
    refine r_iconst (pc := 14) (v := 0) dX12_image_14 (by decide +kernel) ?_
    cases h
    exact r_iret (pc := 15) rfl (zn_ok (Or.inl rfl)).1 (Nat.le_refl 0) (Nat.le_refl 0) dX12_image_15
theorem kX12_image {G : GG} (a0 : Nat) (x1 : Int) (M : MM) {res : (Int × MM)} (oa0 : OB L0 a0 12) (h : sX12_image a0 x1 M = some res) : CO G xX12_image [.ref (gA G a0), .int (eI x1)] L0 M (some (.int (eI res.1))) L0 res.2 := CO_of (by decide +kernel) (Nat.le_of_ble_eq_true rfl) (bX12_image_b0 a0 x1 oa0 M h)
abbrev xX12_again : XX := (yX12_again, cX12_again, 2, (some .boolean), 2, 47, 0, 0)
theorem ck_X12_again_105 : CKS xX12_again 105 xX12_in 3 := ⟨⟨tb_i 1622 (by decide +kernel) (by decide +kernel), tb_i 152 (by decide +kernel) (by decide +kernel), tb_i 1624 (by decide +kernel) (by decide +kernel), ⟨by decide +kernel, by decide +kernel, by decide +kernel⟩, by decide, by decide⟩, tb_i 1623 (by decide +kernel) (by decide +kernel)⟩
theorem ck_X12_again_639 : CKV xX12_again 639 xX12_copyAll 2 := ⟨⟨tb_i 2194 (by decide +kernel) (by decide +kernel), tb_i 152 (by decide +kernel) (by decide +kernel), tb_i 2197 (by decide +kernel) (by decide +kernel), ⟨by decide +kernel, by decide +kernel, by decide +kernel⟩, by decide, by decide⟩, tb_i 2196 (by decide +kernel) (by decide +kernel), tb_i 137 (by decide +kernel) (by decide +kernel)⟩
def sX12_again_b0 (a0 : Nat) (x1 : Int)   (M : MM) : Option (Int × MM) := ((some (mU M a0 0 0)).bind fun M_1 => (if wI (sX12_in x1 0 2) = 0 then (some ((0, M_1))) else (if 0 ≤ wI x1 ∧ wI x1 < 3 then (if wI (M_1 (gR a0 67) (wI x1).toNat) = 0 then (some ((0, M_1))) else ((sX12_copyAll a0 (x1 + 1) 0 M_1).bind fun q_6 => (some ((1, q_6))))) else none)))
def sX12_again (a0 : Nat) (x1 : Int) (M : MM) : Option (Int × MM) := sX12_again_b0 a0 x1 M
set_option maxHeartbeats 4000000 in
set_option maxRecDepth 100000 in
theorem bX12_again_b0 {G : GG} (a0 : Nat) (x1 : Int) (oa0 : OB L0 a0 12)  (M : MM) {res : (Int × MM)}  (h : sX12_again_b0 a0 x1 M = some res) : VV G xX12_again (ZM G xX12_again (some (.int (eI res.1))) L0 res.2) L0 M 0 0 0 [(0, .ref (gA G a0)), (1, .int (eI x1))] [] := by
  unfold sX12_again_b0 at h
  refine r_aload_n (pc := 0) (i := 0) dX12_again_0 rfl 0 rfl ?_
  refine r_iconst (pc := 1) (v := 0) dX12_again_1 (by decide +kernel) ?_
  obtain ⟨M_1, hM_1, h⟩ := ob h
  refine r_putI (pc := 2) fg_12_97 rfl oa0 hM_1 rfl rfl dX12_again_2 ?_
  refine r_iload_n (pc := 5) (i := 1) dX12_again_5 rfl 1 rfl ?_
  refine r_iconst (pc := 6) (v := 0) dX12_again_6 (by decide +kernel) ?_
  refine r_iconst (pc := 7) (v := 2) dX12_again_7 (by decide +kernel) ?_
  refine r_cS (pc := 8) (Y := xX12_in) (As := [.int (eI x1), .int (eI 0), .int (eI 2)]) (rest := []) (v := (some (.int (eI (sX12_in x1 0 2))))) (st1 := [.int (eI (sX12_in x1 0 2))]) ck_X12_again_105 (kX12_in x1 0 2 M_1 ) rfl rfl (Nat.le_of_ble_eq_true rfl) ⟨rfl, rfl⟩ rfl dX12_again_8 ?_
  refine r_if_eq (pc := 11) (tgt := 23) dX12_again_11 (by decide) rfl (fun c_2 => ?_) (fun c_2 => ?_)
  · replace h := (if_pos c_2).symm.trans h
    refine r_iconst (pc := 23) (v := 0) dX12_again_23 (by decide +kernel) ?_
    cases h
    exact r_iret (pc := 24) rfl (zn_ok (Or.inl rfl)).1 (Nat.le_refl 0) (Nat.le_refl 0) dX12_again_24
  · replace h := (if_neg c_2).symm.trans h
    refine r_aload_n (pc := 14) (i := 0) dX12_again_14 rfl 0 rfl ?_
    have o_3 := (wt_12_67 oa0).2
    refine r_getR (pc := 15) fg_12_93 rfl oa0 (wt_12_67 oa0).1 dX12_again_15 ?_
    refine r_iload_n (pc := 18) (i := 1) dX12_again_18 rfl 1 rfl ?_
    obtain ⟨c_4, h⟩ := og h
    refine r_zald (pc := 19) o_3 rfl c_4 rfl dX12_again_19 ?_
    refine r_if_ne (pc := 20) (tgt := 25) dX12_again_20 (by decide) rfl (fun c_5 => ?_) (fun c_5 => ?_)
    · replace h := (if_neg c_5).symm.trans h
      refine r_aload_n (pc := 25) (i := 0) dX12_again_25 rfl 0 rfl ?_
      refine r_iload_n (pc := 26) (i := 1) dX12_again_26 rfl 1 rfl ?_
      refine r_iconst (pc := 27) (v := 1) dX12_again_27 (by decide +kernel) ?_
      refine r_iadd (pc := 28) dX12_again_28 ?_
      refine r_iconst (pc := 29) (v := 0) dX12_again_29 (by decide +kernel) ?_
      obtain ⟨q_6, hq_6, h⟩ := ob h
      refine r_cV (pc := 30) (Y := xX12_copyAll) (As := [.int (eI (x1 + 1)), .int (eI 0)]) (rest := []) (v := none) (st1 := []) ck_X12_again_639 (kX12_copyAll a0 (x1 + 1) 0 M_1 oa0 hq_6) oa0 rfl rfl rfl rfl (Nat.le_of_ble_eq_true rfl) ⟨rfl, rfl⟩ rfl dX12_again_30 ?_
      refine r_iconst (pc := 33) (v := 1) dX12_again_33 (by decide +kernel) ?_
      cases h
      exact r_iret (pc := 34) rfl (zn_ok (Or.inr rfl)).1 (Nat.le_refl 0) (Nat.le_refl 0) dX12_again_34
    · replace h := (if_pos c_5).symm.trans h
      refine r_iconst (pc := 23) (v := 0) dX12_again_23 (by decide +kernel) ?_
      cases h
      exact r_iret (pc := 24) rfl (zn_ok (Or.inl rfl)).1 (Nat.le_refl 0) (Nat.le_refl 0) dX12_again_24
theorem kX12_again {G : GG} (a0 : Nat) (x1 : Int) (M : MM) {res : (Int × MM)} (oa0 : OB L0 a0 12) (h : sX12_again a0 x1 M = some res) : CO G xX12_again [.ref (gA G a0), .int (eI x1)] L0 M (some (.int (eI res.1))) L0 res.2 := CO_of (by decide +kernel) (Nat.le_of_ble_eq_true rfl) (bX12_again_b0 a0 x1 oa0 M h)
