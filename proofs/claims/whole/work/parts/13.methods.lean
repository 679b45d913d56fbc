abbrev xX9_append : XX := (yX9_append, cX9_append, 3, none, 0, 0, 0, 0)
def sX9_append_b40 (a0 : Nat) (x1 : Int) (K3 : Int → MM → Option MM) (x2 : Int) (M : MM) : Option MM := ((some (x2 + (-8))).bind fun v_1 => (K3 v_1 M))
def sX9_append_b3 (a0 : Nat) (x1 : Int)  : Nat → Int → MM → Option MM
  | 0, _, _ => none
  | n + 1, x2, M => (if wI x2 < 0 then (some (M)) else (if 600 ≤ wI (M a0 1) then (sX9_append_b40 a0 x1 (fun x2 M => sX9_append_b3 a0 x1 n x2 M) x2 M) else (if 0 ≤ wI x2 ∧ wI x2 < 32 then (if 0 ≤ wI (M a0 1) ∧ wI (M a0 1) < 600 then ((some (mU M (gR a0 0) (wI (M a0 1)).toNat ((x1 % 4294967296 / 2 ^ (wI x2).toNat).bmod 256))).bind fun M_6 => ((some (mU M_6 a0 1 ((M_6 a0 1) + 1))).bind fun M_7 => (sX9_append_b40 a0 x1 (fun x2 M => sX9_append_b3 a0 x1 n x2 M) x2 M_7))) else none) else none)))
def sX9_append_b0 (a0 : Nat) (x1 : Int)   (M : MM) : Option MM := (sX9_append_b3 a0 x1 FU 24 M)
def sX9_append (a0 : Nat) (x1 : Int) (M : MM) : Option MM := sX9_append_b0 a0 x1 M
set_option maxHeartbeats 4000000 in
set_option maxRecDepth 100000 in
theorem bX9_append_b40 {G : GG} (a0 : Nat) (x1 : Int) (oa0 : OB L0 a0 9) {K3 : Int → MM → Option MM} (x2 : Int) (M : MM) {res : MM} (hK3 : ∀ (x2 : Int) (M : MM), K3 x2 M = some res → VV G xX9_append (ZM G xX9_append (none) L0 res) L0 M 0 0 3 [(0, .ref (gA G a0)), (1, .int (eI x1)), (2, .int (eI x2))] [])  (h : sX9_append_b40 a0 x1 K3 x2 M = some res) : VV G xX9_append (ZM G xX9_append (none) L0 res) L0 M 0 0 40 [(0, .ref (gA G a0)), (1, .int (eI x1)), (2, .int (eI x2))] [] := by
  unfold sX9_append_b40 at h
  obtain ⟨v_1, hv_1, h⟩ := ob h
  refine r_iinc (pc := 40) (y := v_1) (lv' := [(2, .int (eI v_1)), (0, .ref (gA G a0)), (1, .int (eI x1))]) dX9_append_40 2 rfl (Option.some.inj hv_1) (Nat.le_of_ble_eq_true rfl) rfl ?_
  refine r_goto (pc := 43) (tgt := 3) dX9_append_43 (by decide) ?_
  refine r_sub (lv' := [(0, .ref (gA G a0)), (1, .int (eI x1)), (2, .int (eI v_1))]) [1, 2, 0] rfl ?_
  exact hK3 _ _ h
set_option maxHeartbeats 4000000 in
set_option maxRecDepth 100000 in
theorem bX9_append_b3 {G : GG} (a0 : Nat) (x1 : Int) (oa0 : OB L0 a0 9) {res : MM} : ∀ (n : Nat) (x2 : Int) (M : MM)  (h : sX9_append_b3 a0 x1 n x2 M = some res), VV G xX9_append (ZM G xX9_append (none) L0 res) L0 M 0 0 3 [(0, .ref (gA G a0)), (1, .int (eI x1)), (2, .int (eI x2))] [] := by
  intro n
  induction n with
  | zero =>
    intro x2 M h
    rw [sX9_append_b3] at h
    cases h
  | succ n ih =>
    intro x2 M h
    rw [sX9_append_b3] at h
    refine r_iload_n (pc := 3) (i := 2) dX9_append_3 rfl 2 rfl ?_
    refine r_if_lt (pc := 4) (tgt := 46) dX9_append_4 (by decide) rfl (fun c_1 => ?_) (fun c_1 => ?_)
    · replace h := (if_pos c_1).symm.trans h
      cases h
      exact r_vret (pc := 46) rfl (Nat.le_refl 0) (Nat.le_refl 0) dX9_append_46
    · replace h := (if_neg c_1).symm.trans h
      refine r_aload_n (pc := 7) (i := 0) dX9_append_7 rfl 0 rfl ?_
      refine r_getI (pc := 8) fg_9_56 rfl oa0 dX9_append_8 ?_
      refine r_sipush (pc := 11) (v := 600) dX9_append_11 (by decide +kernel) ?_
      refine r_icmp_ge (pc := 14) (tgt := 40) dX9_append_14 (by decide) rfl wl_600 (fun c_2 => ?_) (fun c_2 => ?_)
      · replace h := (if_pos c_2).symm.trans h
        refine r_sub (lv' := [(0, .ref (gA G a0)), (1, .int (eI x1)), (2, .int (eI x2))]) [0, 1, 2] rfl ?_
        exact bX9_append_b40 a0 x1 oa0 _ _ (fun v0 v1 v2 => ih v0 v1 v2) h
      · replace h := (if_neg c_2).symm.trans h
        refine r_aload_n (pc := 17) (i := 0) dX9_append_17 rfl 0 rfl ?_
        have o_3 := (wt_9_0 oa0).2
        refine r_getR (pc := 18) fg_9_9 rfl oa0 (wt_9_0 oa0).1 dX9_append_18 ?_
        refine r_aload_n (pc := 21) (i := 0) dX9_append_21 rfl 0 rfl ?_
        refine r_getI (pc := 22) fg_9_56 rfl oa0 dX9_append_22 ?_
        refine r_iload_n (pc := 25) (i := 1) dX9_append_25 rfl 1 rfl ?_
        refine r_iload_n (pc := 26) (i := 2) dX9_append_26 rfl 2 rfl ?_
        obtain ⟨c_4, h⟩ := og h
        refine r_iushr (pc := 27) rfl c_4 dX9_append_27 ?_
        refine r_i2b (pc := 28) dX9_append_28 ?_
        obtain ⟨c_5, h⟩ := og h
        obtain ⟨M_6, hM_6, h⟩ := ob h
        refine r_bast (pc := 29) o_3 rfl c_5 rfl hM_6 (nb_ok _) dX9_append_29 ?_
        refine r_aload_n (pc := 30) (i := 0) dX9_append_30 rfl 0 rfl ?_
        refine r_dup (pc := 31) dX9_append_31 rfl ?_
        refine r_getI (pc := 32) fg_9_56 rfl oa0 dX9_append_32 ?_
        refine r_iconst (pc := 35) (v := 1) dX9_append_35 (by decide +kernel) ?_
        refine r_iadd (pc := 36) dX9_append_36 ?_
        obtain ⟨M_7, hM_7, h⟩ := ob h
        refine r_putI (pc := 37) fg_9_56 rfl oa0 hM_7 rfl rfl dX9_append_37 ?_
        refine r_sub (lv' := [(0, .ref (gA G a0)), (1, .int (eI x1)), (2, .int (eI x2))]) [0, 1, 2] rfl ?_
        exact bX9_append_b40 a0 x1 oa0 _ _ (fun v0 v1 v2 => ih v0 v1 v2) h
set_option maxHeartbeats 4000000 in
set_option maxRecDepth 100000 in
theorem bX9_append_b0 {G : GG} (a0 : Nat) (x1 : Int) (oa0 : OB L0 a0 9)  (M : MM) {res : MM}  (h : sX9_append_b0 a0 x1 M = some res) : VV G xX9_append (ZM G xX9_append (none) L0 res) L0 M 0 0 0 [(0, .ref (gA G a0)), (1, .int (eI x1))] [] := by
  unfold sX9_append_b0 at h
  refine r_bipush (pc := 0) (v := 24) dX9_append_0 (by decide +kernel) ?_
  refine r_istore_n (pc := 2) (i := 2) (lv' := [(2, .int (eI 24)), (0, .ref (gA G a0)), (1, .int (eI x1))]) dX9_append_2 rfl (Nat.le_of_ble_eq_true rfl) rfl ?_
  refine r_sub (lv' := [(0, .ref (gA G a0)), (1, .int (eI x1)), (2, .int (eI 24))]) [1, 2, 0] rfl ?_
  exact bX9_append_b3 a0 x1 oa0 _ _ _ h
theorem kX9_append {G : GG} (a0 : Nat) (x1 : Int) (M : MM) {res : MM} (oa0 : OB L0 a0 9) (h : sX9_append a0 x1 M = some res) : CO G xX9_append [.ref (gA G a0), .int (eI x1)] L0 M (none) L0 res := CO_of (by decide +kernel) (Nat.le_of_ble_eq_true rfl) (bX9_append_b0 a0 x1 oa0 M h)
abbrev xX9_copy : XX := (yX9_copy, cX9_copy, 3, none, 3, 68, 0, 0)
theorem ck_X9_copy_68 : CKV xX9_copy 68 xX5_copy 1 := ⟨⟨tb_i 1391 (by decide +kernel) (by decide +kernel), tb_i 141 (by decide +kernel) (by decide +kernel), tb_i 838 (by decide +kernel) (by decide +kernel), ⟨by decide +kernel, by decide +kernel, by decide +kernel⟩, by decide, by decide⟩, tb_i 836 (by decide +kernel) (by decide +kernel), tb_i 837 (by decide +kernel) (by decide +kernel)⟩
theorem ck_X9_copy_72 : CKV xX9_copy 72 xX3_copy 1 := ⟨⟨tb_i 1392 (by decide +kernel) (by decide +kernel), tb_i 142 (by decide +kernel) (by decide +kernel), tb_i 845 (by decide +kernel) (by decide +kernel), ⟨by decide +kernel, by decide +kernel, by decide +kernel⟩, by decide, by decide⟩, tb_i 843 (by decide +kernel) (by decide +kernel), tb_i 844 (by decide +kernel) (by decide +kernel)⟩
theorem ck_X9_copy_75 : CKV xX9_copy 75 xX1_copy 1 := ⟨⟨tb_i 1393 (by decide +kernel) (by decide +kernel), tb_i 144 (by decide +kernel) (by decide +kernel), tb_i 850 (by decide +kernel) (by decide +kernel), ⟨by decide +kernel, by decide +kernel, by decide +kernel⟩, by decide, by decide⟩, tb_i 848 (by decide +kernel) (by decide +kernel), tb_i 849 (by decide +kernel) (by decide +kernel)⟩
theorem ck_X9_copy_78 : CKV xX9_copy 78 xX8_copy 1 := ⟨⟨tb_i 1394 (by decide +kernel) (by decide +kernel), tb_i 145 (by decide +kernel) (by decide +kernel), tb_i 856 (by decide +kernel) (by decide +kernel), ⟨by decide +kernel, by decide +kernel, by decide +kernel⟩, by decide, by decide⟩, tb_i 854 (by decide +kernel) (by decide +kernel), tb_i 855 (by decide +kernel) (by decide +kernel)⟩
def sX9_copy_b56 (a0 : Nat) (a1 : Nat)  : Nat → Int → MM → Option MM
  | 0, _, _ => none
  | n + 1, x2, M => (if 2 ≤ wI x2 then (some (M)) else (if 0 ≤ wI x2 ∧ wI x2 < 2 then (if 0 ≤ wI x2 ∧ wI x2 < 2 then ((sX5_copy (gR (gR a0 5) (wI x2).toNat) (gR (gR a1 5) (wI x2).toNat) M).bind fun q_8 => (if 0 ≤ wI x2 ∧ wI x2 < 2 then (if 0 ≤ wI x2 ∧ wI x2 < 2 then ((sX3_copy (gR (gR a0 6) (wI x2).toNat) (gR (gR a1 6) (wI x2).toNat) q_8).bind fun q_15 => (if 0 ≤ wI x2 ∧ wI x2 < 2 then (if 0 ≤ wI x2 ∧ wI x2 < 2 then ((sX1_copy (gR (gR a0 7) (wI x2).toNat) (gR (gR a1 7) (wI x2).toNat) q_15).bind fun q_22 => (if 0 ≤ wI x2 ∧ wI x2 < 2 then (if 0 ≤ wI x2 ∧ wI x2 < 2 then ((sX3_copy (gR (gR a0 8) (wI x2).toNat) (gR (gR a1 8) (wI x2).toNat) q_22).bind fun q_29 => (if 0 ≤ wI x2 ∧ wI x2 < 2 then (if 0 ≤ wI x2 ∧ wI x2 < 2 then ((sX8_copy (gR (gR a0 9) (wI x2).toNat) (gR (gR a1 9) (wI x2).toNat) q_29).bind fun q_36 => ((some (x2 + 1)).bind fun v_37 => (sX9_copy_b56 a0 a1 n v_37 q_36))) else none) else none)) else none) else none)) else none) else none)) else none) else none)) else none) else none))
def sX9_copy_b0 (a0 : Nat) (a1 : Nat)   (M : MM) : Option MM := (if byt (M (gR a1 0)) 600 = true then ((some (mC M (gR a1 0) (gR a0 0) 600)).bind fun M_4 => ((some (mU M_4 a0 1 (M_4 a1 1))).bind fun M_5 => ((some (mU M_5 a0 2 (M_5 a1 2))).bind fun M_6 => ((some (mU M_6 a0 3 (M_6 a1 3))).bind fun M_7 => ((some (mC M_7 (gR a1 4) (gR a0 4) 5)).bind fun M_10 => (sX9_copy_b56 a0 a1 FU 0 M_10)))))) else none)
def sX9_copy (a0 : Nat) (a1 : Nat) (M : MM) : Option MM := sX9_copy_b0 a0 a1 M
set_option maxHeartbeats 4000000 in
set_option maxRecDepth 100000 in
theorem bX9_copy_b56 {G : GG} (a0 : Nat) (a1 : Nat) (oa0 : OB L0 a0 9) (oa1 : OB L0 a1 9) {res : MM} : ∀ (n : Nat) (x2 : Int) (M : MM)  (h : sX9_copy_b56 a0 a1 n x2 M = some res), VV G xX9_copy (ZM G xX9_copy (none) L0 res) L0 M 0 0 56 [(0, .ref (gA G a0)), (1, .ref (gA G a1)), (2, .int (eI x2))] [] := by
  intro n
  induction n with
  | zero =>
    intro x2 M h
    rw [sX9_copy_b56] at h
    cases h
  | succ n ih =>
    intro x2 M h
    rw [sX9_copy_b56] at h
    refine r_iload_n (pc := 56) (i := 2) dX9_copy_56 rfl 2 rfl ?_
    refine r_iconst (pc := 57) (v := 2) dX9_copy_57 (by decide +kernel) ?_
    refine r_icmp_ge (pc := 58) (tgt := 142) dX9_copy_58 (by decide) rfl wl_2 (fun c_1 => ?_) (fun c_1 => ?_)
    · replace h := (if_pos c_1).symm.trans h
      cases h
      exact r_vret (pc := 142) rfl (Nat.le_refl 0) (Nat.le_refl 0) dX9_copy_142
    · replace h := (if_neg c_1).symm.trans h
      refine r_aload_n (pc := 61) (i := 0) dX9_copy_61 rfl 0 rfl ?_
      have o_2 := (wt_9_5 oa0).2
      refine r_getR (pc := 62) fg_9_25 rfl oa0 (wt_9_5 oa0).1 dX9_copy_62 ?_
      refine r_iload_n (pc := 65) (i := 2) dX9_copy_65 rfl 2 rfl ?_
      obtain ⟨c_3, h⟩ := og h
      have o_4 := (wa_7 o_2 c_3).2
      refine r_aald7 (pc := 66) o_2 rfl c_3 rfl (wa_7 o_2 c_3).1 dX9_copy_66 ?_
      refine r_aload_n (pc := 67) (i := 1) dX9_copy_67 rfl 1 rfl ?_
      have o_5 := (wt_9_5 oa1).2
      refine r_getR (pc := 68) fg_9_25 rfl oa1 (wt_9_5 oa1).1 dX9_copy_68 ?_
      refine r_iload_n (pc := 71) (i := 2) dX9_copy_71 rfl 2 rfl ?_
      obtain ⟨c_6, h⟩ := og h
      have o_7 := (wa_7 o_5 c_6).2
      refine r_aald7 (pc := 72) o_5 rfl c_6 rfl (wa_7 o_5 c_6).1 dX9_copy_72 ?_
      obtain ⟨q_8, hq_8, h⟩ := ob h
      refine r_cV (pc := 73) (Y := xX5_copy) (As := [.ref (gA G (gR (gR a1 5) (wI x2).toNat))]) (rest := []) (v := none) (st1 := []) ck_X9_copy_68 (kX5_copy (gR (gR a0 5) (wI x2).toNat) (gR (gR a1 5) (wI x2).toNat) M o_4 o_7 hq_8) o_4 rfl rfl rfl rfl (Nat.le_of_ble_eq_true rfl) ⟨rfl, rfl⟩ rfl dX9_copy_73 ?_
      refine r_aload_n (pc := 76) (i := 0) dX9_copy_76 rfl 0 rfl ?_
      have o_9 := (wt_9_6 oa0).2
      refine r_getR (pc := 77) fg_9_31 rfl oa0 (wt_9_6 oa0).1 dX9_copy_77 ?_
      refine r_iload_n (pc := 80) (i := 2) dX9_copy_80 rfl 2 rfl ?_
      obtain ⟨c_10, h⟩ := og h
      have o_11 := (wa_6 o_9 c_10).2
      refine r_aald6 (pc := 81) o_9 rfl c_10 rfl (wa_6 o_9 c_10).1 dX9_copy_81 ?_
      refine r_aload_n (pc := 82) (i := 1) dX9_copy_82 rfl 1 rfl ?_
      have o_12 := (wt_9_6 oa1).2
      refine r_getR (pc := 83) fg_9_31 rfl oa1 (wt_9_6 oa1).1 dX9_copy_83 ?_
      refine r_iload_n (pc := 86) (i := 2) dX9_copy_86 rfl 2 rfl ?_
      obtain ⟨c_13, h⟩ := og h
      have o_14 := (wa_6 o_12 c_13).2
      refine r_aald6 (pc := 87) o_12 rfl c_13 rfl (wa_6 o_12 c_13).1 dX9_copy_87 ?_
      obtain ⟨q_15, hq_15, h⟩ := ob h
      refine r_cV (pc := 88) (Y := xX3_copy) (As := [.ref (gA G (gR (gR a1 6) (wI x2).toNat))]) (rest := []) (v := none) (st1 := []) ck_X9_copy_72 (kX3_copy (gR (gR a0 6) (wI x2).toNat) (gR (gR a1 6) (wI x2).toNat) q_8 o_11 o_14 hq_15) o_11 rfl rfl rfl rfl (Nat.le_of_ble_eq_true rfl) ⟨rfl, rfl⟩ rfl dX9_copy_88 ?_
      refine r_aload_n (pc := 91) (i := 0) dX9_copy_91 rfl 0 rfl ?_
      have o_16 := (wt_9_7 oa0).2
      refine r_getR (pc := 92) fg_9_37 rfl oa0 (wt_9_7 oa0).1 dX9_copy_92 ?_
      refine r_iload_n (pc := 95) (i := 2) dX9_copy_95 rfl 2 rfl ?_
      obtain ⟨c_17, h⟩ := og h
      have o_18 := (wa_5 o_16 c_17).2
      refine r_aald5 (pc := 96) o_16 rfl c_17 rfl (wa_5 o_16 c_17).1 dX9_copy_96 ?_
      refine r_aload_n (pc := 97) (i := 1) dX9_copy_97 rfl 1 rfl ?_
      have o_19 := (wt_9_7 oa1).2
      refine r_getR (pc := 98) fg_9_37 rfl oa1 (wt_9_7 oa1).1 dX9_copy_98 ?_
      refine r_iload_n (pc := 101) (i := 2) dX9_copy_101 rfl 2 rfl ?_
      obtain ⟨c_20, h⟩ := og h
      have o_21 := (wa_5 o_19 c_20).2
      refine r_aald5 (pc := 102) o_19 rfl c_20 rfl (wa_5 o_19 c_20).1 dX9_copy_102 ?_
      obtain ⟨q_22, hq_22, h⟩ := ob h
      refine r_cV (pc := 103) (Y := xX1_copy) (As := [.ref (gA G (gR (gR a1 7) (wI x2).toNat))]) (rest := []) (v := none) (st1 := []) ck_X9_copy_75 (kX1_copy (gR (gR a0 7) (wI x2).toNat) (gR (gR a1 7) (wI x2).toNat) q_15 o_18 o_21 hq_22) o_18 rfl rfl rfl rfl (Nat.le_of_ble_eq_true rfl) ⟨rfl, rfl⟩ rfl dX9_copy_103 ?_
      refine r_aload_n (pc := 106) (i := 0) dX9_copy_106 rfl 0 rfl ?_
      have o_23 := (wt_9_8 oa0).2
      refine r_getR (pc := 107) fg_9_41 rfl oa0 (wt_9_8 oa0).1 dX9_copy_107 ?_
      refine r_iload_n (pc := 110) (i := 2) dX9_copy_110 rfl 2 rfl ?_
      obtain ⟨c_24, h⟩ := og h
      have o_25 := (wa_6 o_23 c_24).2
      refine r_aald6 (pc := 111) o_23 rfl c_24 rfl (wa_6 o_23 c_24).1 dX9_copy_111 ?_
      refine r_aload_n (pc := 112) (i := 1) dX9_copy_112 rfl 1 rfl ?_
      have o_26 := (wt_9_8 oa1).2
      refine r_getR (pc := 113) fg_9_41 rfl oa1 (wt_9_8 oa1).1 dX9_copy_113 ?_
      refine r_iload_n (pc := 116) (i := 2) dX9_copy_116 rfl 2 rfl ?_
      obtain ⟨c_27, h⟩ := og h
      have o_28 := (wa_6 o_26 c_27).2
      refine r_aald6 (pc := 117) o_26 rfl c_27 rfl (wa_6 o_26 c_27).1 dX9_copy_117 ?_
      obtain ⟨q_29, hq_29, h⟩ := ob h
      refine r_cV (pc := 118) (Y := xX3_copy) (As := [.ref (gA G (gR (gR a1 8) (wI x2).toNat))]) (rest := []) (v := none) (st1 := []) ck_X9_copy_72 (kX3_copy (gR (gR a0 8) (wI x2).toNat) (gR (gR a1 8) (wI x2).toNat) q_22 o_25 o_28 hq_29) o_25 rfl rfl rfl rfl (Nat.le_of_ble_eq_true rfl) ⟨rfl, rfl⟩ rfl dX9_copy_118 ?_
      refine r_aload_n (pc := 121) (i := 0) dX9_copy_121 rfl 0 rfl ?_
      have o_30 := (wt_9_9 oa0).2
      refine r_getR (pc := 122) fg_9_46 rfl oa0 (wt_9_9 oa0).1 dX9_copy_122 ?_
      refine r_iload_n (pc := 125) (i := 2) dX9_copy_125 rfl 2 rfl ?_
      obtain ⟨c_31, h⟩ := og h
      have o_32 := (wa_8 o_30 c_31).2
      refine r_aald8 (pc := 126) o_30 rfl c_31 rfl (wa_8 o_30 c_31).1 dX9_copy_126 ?_
      refine r_aload_n (pc := 127) (i := 1) dX9_copy_127 rfl 1 rfl ?_
      have o_33 := (wt_9_9 oa1).2
      refine r_getR (pc := 128) fg_9_46 rfl oa1 (wt_9_9 oa1).1 dX9_copy_128 ?_
      refine r_iload_n (pc := 131) (i := 2) dX9_copy_131 rfl 2 rfl ?_
      obtain ⟨c_34, h⟩ := og h
      have o_35 := (wa_8 o_33 c_34).2
      refine r_aald8 (pc := 132) o_33 rfl c_34 rfl (wa_8 o_33 c_34).1 dX9_copy_132 ?_
      obtain ⟨q_36, hq_36, h⟩ := ob h
      refine r_cV (pc := 133) (Y := xX8_copy) (As := [.ref (gA G (gR (gR a1 9) (wI x2).toNat))]) (rest := []) (v := none) (st1 := []) ck_X9_copy_78 (kX8_copy (gR (gR a0 9) (wI x2).toNat) (gR (gR a1 9) (wI x2).toNat) q_29 o_32 o_35 hq_36) o_32 rfl rfl rfl rfl (Nat.le_of_ble_eq_true rfl) ⟨rfl, rfl⟩ rfl dX9_copy_133 ?_
      obtain ⟨v_37, hv_37, h⟩ := ob h
      refine r_iinc (pc := 136) (y := v_37) (lv' := [(2, .int (eI v_37)), (0, .ref (gA G a0)), (1, .ref (gA G a1))]) dX9_copy_136 2 rfl (Option.some.inj hv_37) (Nat.le_of_ble_eq_true rfl) rfl ?_
      refine r_goto (pc := 139) (tgt := 56) dX9_copy_139 (by decide) ?_
      refine r_sub (lv' := [(0, .ref (gA G a0)), (1, .ref (gA G a1)), (2, .int (eI v_37))]) [1, 2, 0] rfl ?_
      exact ih _ _ h
set_option maxHeartbeats 4000000 in
set_option maxRecDepth 100000 in
theorem bX9_copy_b0 {G : GG} (a0 : Nat) (a1 : Nat) (oa0 : OB L0 a0 9) (oa1 : OB L0 a1 9)  (M : MM) {res : MM}  (h : sX9_copy_b0 a0 a1 M = some res) : VV G xX9_copy (ZM G xX9_copy (none) L0 res) L0 M 0 0 0 [(0, .ref (gA G a0)), (1, .ref (gA G a1))] [] := by
  unfold sX9_copy_b0 at h
  refine r_aload_n (pc := 0) (i := 1) dX9_copy_0 rfl 1 rfl ?_
  have o_1 := (wt_9_0 oa1).2
  refine r_getR (pc := 1) fg_9_9 rfl oa1 (wt_9_0 oa1).1 dX9_copy_1 ?_
  refine r_iconst (pc := 4) (v := 0) dX9_copy_4 (by decide +kernel) ?_
  refine r_aload_n (pc := 5) (i := 0) dX9_copy_5 rfl 0 rfl ?_
  have o_2 := (wt_9_0 oa0).2
  refine r_getR (pc := 6) fg_9_9 rfl oa0 (wt_9_0 oa0).1 dX9_copy_6 ?_
  refine r_iconst (pc := 9) (v := 0) dX9_copy_9 (by decide +kernel) ?_
  refine r_sipush (pc := 10) (v := 600) dX9_copy_10 (by decide +kernel) ?_
  obtain ⟨c_3, h⟩ := og h
  obtain ⟨M_4, hM_4, h⟩ := ob h
  refine r_acpB (pc := 13) ml_9_59 ⟨Nat.le_of_ble_eq_true rfl, Nat.le_of_ble_eq_true rfl⟩ o_1 o_2 wl_600 ⟨by decide, by decide, by decide⟩ (byt_ok c_3) hM_4 dX9_copy_13 ?_
  refine r_aload_n (pc := 16) (i := 0) dX9_copy_16 rfl 0 rfl ?_
  refine r_aload_n (pc := 17) (i := 1) dX9_copy_17 rfl 1 rfl ?_
  refine r_getI (pc := 18) fg_9_56 rfl oa1 dX9_copy_18 ?_
  obtain ⟨M_5, hM_5, h⟩ := ob h
  refine r_putI (pc := 21) fg_9_56 rfl oa0 hM_5 rfl rfl dX9_copy_21 ?_
  refine r_aload_n (pc := 24) (i := 0) dX9_copy_24 rfl 0 rfl ?_
  refine r_aload_n (pc := 25) (i := 1) dX9_copy_25 rfl 1 rfl ?_
  refine r_getI (pc := 26) fg_9_65 rfl oa1 dX9_copy_26 ?_
  obtain ⟨M_6, hM_6, h⟩ := ob h
  refine r_putI (pc := 29) fg_9_65 rfl oa0 hM_6 rfl rfl dX9_copy_29 ?_
  refine r_aload_n (pc := 32) (i := 0) dX9_copy_32 rfl 0 rfl ?_
  refine r_aload_n (pc := 33) (i := 1) dX9_copy_33 rfl 1 rfl ?_
  refine r_getI (pc := 34) fg_9_15 rfl oa1 dX9_copy_34 ?_
  obtain ⟨M_7, hM_7, h⟩ := ob h
  refine r_putI (pc := 37) fg_9_15 rfl oa0 hM_7 rfl rfl dX9_copy_37 ?_
  refine r_aload_n (pc := 40) (i := 1) dX9_copy_40 rfl 1 rfl ?_
  have o_8 := (wt_9_4 oa1).2
  refine r_getR (pc := 41) fg_9_19 rfl oa1 (wt_9_4 oa1).1 dX9_copy_41 ?_
  refine r_iconst (pc := 44) (v := 0) dX9_copy_44 (by decide +kernel) ?_
  refine r_aload_n (pc := 45) (i := 0) dX9_copy_45 rfl 0 rfl ?_
  have o_9 := (wt_9_4 oa0).2
  refine r_getR (pc := 46) fg_9_19 rfl oa0 (wt_9_4 oa0).1 dX9_copy_46 ?_
  refine r_iconst (pc := 49) (v := 0) dX9_copy_49 (by decide +kernel) ?_
  refine r_iconst (pc := 50) (v := 5) dX9_copy_50 (by decide +kernel) ?_
  obtain ⟨M_10, hM_10, h⟩ := ob h
  refine r_acpI (pc := 51) ml_9_59 ⟨Nat.le_of_ble_eq_true rfl, Nat.le_of_ble_eq_true rfl⟩ o_8 o_9 wl_5 ⟨by decide, by decide, by decide⟩ hM_10 dX9_copy_51 ?_
  refine r_iconst (pc := 54) (v := 0) dX9_copy_54 (by decide +kernel) ?_
  refine r_istore_n (pc := 55) (i := 2) (lv' := [(2, .int (eI 0)), (0, .ref (gA G a0)), (1, .ref (gA G a1))]) dX9_copy_55 rfl (Nat.le_of_ble_eq_true rfl) rfl ?_
  refine r_sub (lv' := [(0, .ref (gA G a0)), (1, .ref (gA G a1)), (2, .int (eI 0))]) [1, 2, 0] rfl ?_
  exact bX9_copy_b56 a0 a1 oa0 oa1 _ _ _ h
theorem kX9_copy {G : GG} (a0 : Nat) (a1 : Nat) (M : MM) {res : MM} (oa0 : OB L0 a0 9) (oa1 : OB L0 a1 9) (h : sX9_copy a0 a1 M = some res) : CO G xX9_copy [.ref (gA G a0), .ref (gA G a1)] L0 M (none) L0 res := CO_of (by decide +kernel) (Nat.le_of_ble_eq_true rfl) (bX9_copy_b0 a0 a1 oa0 oa1 M h)
abbrev xX10_shareIf : XX := (yX10_shareIf, cX10_shareIf, 8, (some .int), 4, 88, 0, 0)
theorem ck_X10_shareIf_18 : CKV xX10_shareIf 18 xX10_whoPicksIf 5 := ⟨⟨tb_i 1190 (by decide +kernel) (by decide +kernel), tb_i 150 (by decide +kernel) (by decide +kernel), tb_i 1193 (by decide +kernel) (by decide +kernel), ⟨by decide +kernel, by decide +kernel, by decide +kernel⟩, by decide, by decide⟩, tb_i 1192 (by decide +kernel) (by decide +kernel), tb_i 37 (by decide +kernel) (by decide +kernel)⟩
theorem ck_X10_shareIf_41 : CKV xX10_shareIf 41 xX5_weightOf 1 := ⟨⟨tb_i 1207 (by decide +kernel) (by decide +kernel), tb_i 141 (by decide +kernel) (by decide +kernel), tb_i 1210 (by decide +kernel) (by decide +kernel), ⟨by decide +kernel, by decide +kernel, by decide +kernel⟩, by decide, by decide⟩, tb_i 1208 (by decide +kernel) (by decide +kernel), tb_i 1209 (by decide +kernel) (by decide +kernel)⟩
def sX10_shareIf_b40 (a0 : Nat) (a1 : Nat) (x2 : Int) (x3 : Int) (x4 : Int) (x5 : Int) (M : MM) (K6 : Int → Int → Option Int) (x6 : Int) (x7 : Int) : Option Int := ((some (x7 + 1)).bind fun v_1 => (K6 x6 v_1))
def sX10_shareIf_b6 (a0 : Nat) (a1 : Nat) (x2 : Int) (x3 : Int) (x4 : Int) (x5 : Int) (M : MM)  : Nat → Int → Int → Option Int
  | 0, _, _ => none
  | n + 1, x6, x7 => (if 25 ≤ wI x7 then (some (x6)) else ((sX10_whoPicksIf a0 a1 x2 x7 x4 x5 M).bind fun q_2 => (if wI q_2 = wI x3 then ((sX5_weightOf a1 x7 M).bind fun q_4 => (sX10_shareIf_b40 a0 a1 x2 x3 x4 x5 M (fun x6 x7 => sX10_shareIf_b6 a0 a1 x2 x3 x4 x5 M n x6 x7) (x6 + q_4) x7)) else (sX10_shareIf_b40 a0 a1 x2 x3 x4 x5 M (fun x6 x7 => sX10_shareIf_b6 a0 a1 x2 x3 x4 x5 M n x6 x7) x6 x7))))
def sX10_shareIf_b0 (a0 : Nat) (a1 : Nat) (x2 : Int) (x3 : Int) (x4 : Int) (x5 : Int) (M : MM)   : Option Int := (sX10_shareIf_b6 a0 a1 x2 x3 x4 x5 M FU 0 0)
def sX10_shareIf (a0 : Nat) (a1 : Nat) (x2 : Int) (x3 : Int) (x4 : Int) (x5 : Int) (M : MM) : Option Int := sX10_shareIf_b0 a0 a1 x2 x3 x4 x5 M
set_option maxHeartbeats 4000000 in
set_option maxRecDepth 100000 in
theorem bX10_shareIf_b40 {G : GG} (a0 : Nat) (a1 : Nat) (x2 : Int) (x3 : Int) (x4 : Int) (x5 : Int) (M : MM) (oa0 : OB L0 a0 10) (oa1 : OB L0 a1 5) {K6 : Int → Int → Option Int} (x6 : Int) (x7 : Int) {res : Int} (hK6 : ∀ (x6 : Int) (x7 : Int), K6 x6 x7 = some res → VV G xX10_shareIf (ZM G xX10_shareIf (some (.int (eI res))) L0 M) L0 M 0 0 6 [(0, .ref (gA G a0)), (1, .ref (gA G a1)), (2, .int (eI x2)), (3, .int (eI x3)), (4, .int (eI x4)), (5, .int (eI x5)), (6, .int (eI x6)), (7, .int (eI x7))] [])  (h : sX10_shareIf_b40 a0 a1 x2 x3 x4 x5 M K6 x6 x7 = some res) : VV G xX10_shareIf (ZM G xX10_shareIf (some (.int (eI res))) L0 M) L0 M 0 0 40 [(0, .ref (gA G a0)), (1, .ref (gA G a1)), (2, .int (eI x2)), (3, .int (eI x3)), (4, .int (eI x4)), (5, .int (eI x5)), (6, .int (eI x6)), (7, .int (eI x7))] [] := by
  unfold sX10_shareIf_b40 at h
  obtain ⟨v_1, hv_1, h⟩ := ob h
  refine r_iinc (pc := 40) (y := v_1) (lv' := [(7, .int (eI v_1)), (0, .ref (gA G a0)), (1, .ref (gA G a1)), (2, .int (eI x2)), (3, .int (eI x3)), (4, .int (eI x4)), (5, .int (eI x5)), (6, .int (eI x6))]) dX10_shareIf_40 7 rfl (Option.some.inj hv_1) (Nat.le_of_ble_eq_true rfl) rfl ?_
  refine r_goto (pc := 43) (tgt := 6) dX10_shareIf_43 (by decide) ?_
  refine r_sub (lv' := [(0, .ref (gA G a0)), (1, .ref (gA G a1)), (2, .int (eI x2)), (3, .int (eI x3)), (4, .int (eI x4)), (5, .int (eI x5)), (6, .int (eI x6)), (7, .int (eI v_1))]) [1, 2, 3, 4, 5, 6, 7, 0] rfl ?_
  exact hK6 _ _ h
set_option maxHeartbeats 4000000 in
set_option maxRecDepth 100000 in
theorem bX10_shareIf_b6 {G : GG} (a0 : Nat) (a1 : Nat) (x2 : Int) (x3 : Int) (x4 : Int) (x5 : Int) (M : MM) (oa0 : OB L0 a0 10) (oa1 : OB L0 a1 5) {res : Int} : ∀ (n : Nat) (x6 : Int) (x7 : Int)  (h : sX10_shareIf_b6 a0 a1 x2 x3 x4 x5 M n x6 x7 = some res), VV G xX10_shareIf (ZM G xX10_shareIf (some (.int (eI res))) L0 M) L0 M 0 0 6 [(0, .ref (gA G a0)), (1, .ref (gA G a1)), (2, .int (eI x2)), (3, .int (eI x3)), (4, .int (eI x4)), (5, .int (eI x5)), (6, .int (eI x6)), (7, .int (eI x7))] [] := by
  intro n
  induction n with
  | zero =>
    intro x6 x7 h
    rw [sX10_shareIf_b6] at h
    cases h
  | succ n ih =>
    intro x6 x7 h
    rw [sX10_shareIf_b6] at h
    refine r_iload (pc := 6) dX10_shareIf_6 7 rfl ?_
    refine r_bipush (pc := 8) (v := 25) dX10_shareIf_8 (by decide +kernel) ?_
    refine r_icmp_ge (pc := 10) (tgt := 46) dX10_shareIf_10 (by decide) rfl wl_25 (fun c_1 => ?_) (fun c_1 => ?_)
    · replace h := (if_pos c_1).symm.trans h
      refine r_iload (pc := 46) dX10_shareIf_46 6 rfl ?_
      cases h
      exact r_iret (pc := 48) rfl rfl (Nat.le_refl 0) (Nat.le_refl 0) dX10_shareIf_48
    · replace h := (if_neg c_1).symm.trans h
      refine r_aload_n (pc := 13) (i := 0) dX10_shareIf_13 rfl 0 rfl ?_
      refine r_aload_n (pc := 14) (i := 1) dX10_shareIf_14 rfl 1 rfl ?_
      refine r_iload_n (pc := 15) (i := 2) dX10_shareIf_15 rfl 2 rfl ?_
      refine r_iload (pc := 16) dX10_shareIf_16 7 rfl ?_
      refine r_iload (pc := 18) dX10_shareIf_18 4 rfl ?_
      refine r_iload (pc := 20) dX10_shareIf_20 5 rfl ?_
      obtain ⟨q_2, hq_2, h⟩ := ob h
      refine r_cV (pc := 22) (Y := xX10_whoPicksIf) (As := [.ref (gA G a1), .int (eI x2), .int (eI x7), .int (eI x4), .int (eI x5)]) (rest := []) (v := (some (.int (eI q_2)))) (st1 := [.int (eI q_2)]) ck_X10_shareIf_18 (kX10_whoPicksIf a0 a1 x2 x7 x4 x5 M oa0 oa1 hq_2) oa0 rfl rfl rfl rfl (Nat.le_of_ble_eq_true rfl) ⟨rfl, rfl⟩ rfl dX10_shareIf_22 ?_
      refine r_iload_n (pc := 25) (i := 3) dX10_shareIf_25 rfl 3 rfl ?_
      refine r_icmp_ne (pc := 26) (tgt := 40) dX10_shareIf_26 (by decide) rfl rfl (fun c_3 => ?_) (fun c_3 => ?_)
      · replace h := (if_neg c_3).symm.trans h
        refine r_sub (lv' := [(0, .ref (gA G a0)), (1, .ref (gA G a1)), (2, .int (eI x2)), (3, .int (eI x3)), (4, .int (eI x4)), (5, .int (eI x5)), (6, .int (eI x6)), (7, .int (eI x7))]) [0, 1, 2, 3, 4, 5, 6, 7] rfl ?_
        exact bX10_shareIf_b40 a0 a1 x2 x3 x4 x5 M oa0 oa1 _ _ (fun v0 v1 v2 => ih v0 v1 v2) h
      · replace h := (if_pos c_3).symm.trans h
        refine r_iload (pc := 29) dX10_shareIf_29 6 rfl ?_
        refine r_aload_n (pc := 31) (i := 1) dX10_shareIf_31 rfl 1 rfl ?_
        refine r_iload (pc := 32) dX10_shareIf_32 7 rfl ?_
        obtain ⟨q_4, hq_4, h⟩ := ob h
        refine r_cV (pc := 34) (Y := xX5_weightOf) (As := [.int (eI x7)]) (rest := [.int (eI x6)]) (v := (some (.int (eI q_4)))) (st1 := [.int (eI q_4), .int (eI x6)]) ck_X10_shareIf_41 (kX5_weightOf a1 x7 M oa1 hq_4) oa1 rfl rfl rfl rfl (Nat.le_of_ble_eq_true rfl) ⟨rfl, rfl⟩ rfl dX10_shareIf_34 ?_
        refine r_iadd (pc := 37) dX10_shareIf_37 ?_
        refine r_istore (pc := 38) (lv' := [(6, .int (eI (x6 + q_4))), (0, .ref (gA G a0)), (1, .ref (gA G a1)), (2, .int (eI x2)), (3, .int (eI x3)), (4, .int (eI x4)), (5, .int (eI x5)), (7, .int (eI x7))]) dX10_shareIf_38 (Nat.le_of_ble_eq_true rfl) rfl ?_
        refine r_sub (lv' := [(0, .ref (gA G a0)), (1, .ref (gA G a1)), (2, .int (eI x2)), (3, .int (eI x3)), (4, .int (eI x4)), (5, .int (eI x5)), (6, .int (eI (x6 + q_4))), (7, .int (eI x7))]) [1, 2, 3, 4, 5, 6, 0, 7] rfl ?_
        exact bX10_shareIf_b40 a0 a1 x2 x3 x4 x5 M oa0 oa1 _ _ (fun v0 v1 v2 => ih v0 v1 v2) h
set_option maxHeartbeats 4000000 in
set_option maxRecDepth 100000 in
theorem bX10_shareIf_b0 {G : GG} (a0 : Nat) (a1 : Nat) (x2 : Int) (x3 : Int) (x4 : Int) (x5 : Int) (M : MM) (oa0 : OB L0 a0 10) (oa1 : OB L0 a1 5)  {res : Int}  (h : sX10_shareIf_b0 a0 a1 x2 x3 x4 x5 M = some res) : VV G xX10_shareIf (ZM G xX10_shareIf (some (.int (eI res))) L0 M) L0 M 0 0 0 [(0, .ref (gA G a0)), (1, .ref (gA G a1)), (2, .int (eI x2)), (3, .int (eI x3)), (4, .int (eI x4)), (5, .int (eI x5))] [] := by
  unfold sX10_shareIf_b0 at h
  refine r_iconst (pc := 0) (v := 0) dX10_shareIf_0 (by decide +kernel) ?_
  refine r_istore (pc := 1) (lv' := [(6, .int (eI 0)), (0, .ref (gA G a0)), (1, .ref (gA G a1)), (2, .int (eI x2)), (3, .int (eI x3)), (4, .int (eI x4)), (5, .int (eI x5))]) dX10_shareIf_1 (Nat.le_of_ble_eq_true rfl) rfl ?_
  refine r_iconst (pc := 3) (v := 0) dX10_shareIf_3 (by decide +kernel) ?_
  refine r_istore (pc := 4) (lv' := [(7, .int (eI 0)), (6, .int (eI 0)), (0, .ref (gA G a0)), (1, .ref (gA G a1)), (2, .int (eI x2)), (3, .int (eI x3)), (4, .int (eI x4)), (5, .int (eI x5))]) dX10_shareIf_4 (Nat.le_of_ble_eq_true rfl) rfl ?_
  refine r_sub (lv' := [(0, .ref (gA G a0)), (1, .ref (gA G a1)), (2, .int (eI x2)), (3, .int (eI x3)), (4, .int (eI x4)), (5, .int (eI x5)), (6, .int (eI 0)), (7, .int (eI 0))]) [2, 3, 4, 5, 6, 7, 1, 0] rfl ?_
  exact bX10_shareIf_b6 a0 a1 x2 x3 x4 x5 M oa0 oa1 _ _ _ h
theorem kX10_shareIf {G : GG} (a0 : Nat) (a1 : Nat) (x2 : Int) (x3 : Int) (x4 : Int) (x5 : Int) (M : MM) {res : Int} (oa0 : OB L0 a0 10) (oa1 : OB L0 a1 5) (h : sX10_shareIf a0 a1 x2 x3 x4 x5 M = some res) : CO G xX10_shareIf [.ref (gA G a0), .ref (gA G a1), .int (eI x2), .int (eI x3), .int (eI x4), .int (eI x5)] L0 M (some (.int (eI res))) L0 M := CO_of (by decide +kernel) (Nat.le_of_ble_eq_true rfl) (bX10_shareIf_b0 a0 a1 x2 x3 x4 x5 M oa0 oa1 h)
abbrev xX10_shareOf : XX := (yX10_shareOf, cX10_shareOf, 4, (some .int), 5, 115, 0, 0)
theorem ck_X10_shareOf_45 : CKV xX10_shareOf 45 xX10_shareIf 5 := ⟨⟨tb_i 1203 (by decide +kernel) (by decide +kernel), tb_i 150 (by decide +kernel) (by decide +kernel), tb_i 1206 (by decide +kernel) (by decide +kernel), ⟨by decide +kernel, by decide +kernel, by decide +kernel⟩, by decide, by decide⟩, tb_i 1205 (by decide +kernel) (by decide +kernel), tb_i 38 (by decide +kernel) (by decide +kernel)⟩
def sX10_shareOf_b0 (a0 : Nat) (a1 : Nat) (x2 : Int) (x3 : Int) (M : MM)   : Option Int := ((sX10_shareIf a0 a1 x2 x3 (-1) 0 M).bind fun q_1 => (some (q_1)))
def sX10_shareOf (a0 : Nat) (a1 : Nat) (x2 : Int) (x3 : Int) (M : MM) : Option Int := sX10_shareOf_b0 a0 a1 x2 x3 M
set_option maxHeartbeats 4000000 in
set_option maxRecDepth 100000 in
theorem bX10_shareOf_b0 {G : GG} (a0 : Nat) (a1 : Nat) (x2 : Int) (x3 : Int) (M : MM) (oa0 : OB L0 a0 10) (oa1 : OB L0 a1 5)  {res : Int}  (h : sX10_shareOf_b0 a0 a1 x2 x3 M = some res) : VV G xX10_shareOf (ZM G xX10_shareOf (some (.int (eI res))) L0 M) L0 M 0 0 0 [(0, .ref (gA G a0)), (1, .ref (gA G a1)), (2, .int (eI x2)), (3, .int (eI x3))] [] := by
  unfold sX10_shareOf_b0 at h
  refine r_aload_n (pc := 0) (i := 0) dX10_shareOf_0 rfl 0 rfl ?_
  refine r_aload_n (pc := 1) (i := 1) dX10_shareOf_1 rfl 1 rfl ?_
  refine r_iload_n (pc := 2) (i := 2) dX10_shareOf_2 rfl 2 rfl ?_
  refine r_iload_n (pc := 3) (i := 3) dX10_shareOf_3 rfl 3 rfl ?_
  refine r_iconst (pc := 4) (v := (-1)) dX10_shareOf_4 (by decide +kernel) ?_
  refine r_iconst (pc := 5) (v := 0) dX10_shareOf_5 (by decide +kernel) ?_
  obtain ⟨q_1, hq_1, h⟩ := ob h
  refine r_cV (pc := 6) (Y := xX10_shareIf) (As := [.ref (gA G a1), .int (eI x2), .int (eI x3), .int (eI (-1)), .int (eI 0)]) (rest := []) (v := (some (.int (eI q_1)))) (st1 := [.int (eI q_1)]) ck_X10_shareOf_45 (kX10_shareIf a0 a1 x2 x3 (-1) 0 M oa0 oa1 hq_1) oa0 rfl rfl rfl rfl (Nat.le_of_ble_eq_true rfl) ⟨rfl, rfl⟩ rfl dX10_shareOf_6 ?_
  cases h
  exact r_iret (pc := 9) rfl rfl (Nat.le_refl 0) (Nat.le_refl 0) dX10_shareOf_9
theorem kX10_shareOf {G : GG} (a0 : Nat) (a1 : Nat) (x2 : Int) (x3 : Int) (M : MM) {res : Int} (oa0 : OB L0 a0 10) (oa1 : OB L0 a1 5) (h : sX10_shareOf a0 a1 x2 x3 M = some res) : CO G xX10_shareOf [.ref (gA G a0), .ref (gA G a1), .int (eI x2), .int (eI x3)] L0 M (some (.int (eI res))) L0 M := CO_of (by decide +kernel) (Nat.le_of_ble_eq_true rfl) (bX10_shareOf_b0 a0 a1 x2 x3 M oa0 oa1 h)
abbrev xX10_bestStand : XX := (yX10_bestStand, cX10_bestStand, 8, (some .int), 5, 115, 0, 0)
theorem ck_X10_bestStand_45 : CKV xX10_bestStand 45 xX10_shareIf 5 := ⟨⟨tb_i 1203 (by decide +kernel) (by decide +kernel), tb_i 150 (by decide +kernel) (by decide +kernel), tb_i 1206 (by decide +kernel) (by decide +kernel), ⟨by decide +kernel, by decide +kernel, by decide +kernel⟩, by decide, by decide⟩, tb_i 1205 (by decide +kernel) (by decide +kernel), tb_i 38 (by decide +kernel) (by decide +kernel)⟩
theorem ck_X10_bestStand_48 : CKN xX10_bestStand 48 xX11_ringOf 1 "PaperDonkey" := ⟨tn_i 1224 (by decide +kernel) rfl, tb_i 139 (by decide +kernel) (by decide +kernel), tb_i 1177 (by decide +kernel) (by decide +kernel), ⟨by decide +kernel, by decide +kernel, by decide +kernel⟩, by decide, by decide, tb_i 1176 (by decide +kernel) (by decide +kernel)⟩
def sX10_bestStand_b61 (a0 : Nat) (a1 : Nat) (x2 : Int) (x3 : Int) (M : MM) (K9 : Int → Int → Int → Option Int) (x4 : Int) (x5 : Int) (x6 : Int) : Option Int := ((some (x6 + 1)).bind fun v_1 => (K9 x4 x5 v_1))
def sX10_bestStand_b53 (a0 : Nat) (a1 : Nat) (x2 : Int) (x3 : Int) (M : MM) (K9 : Int → Int → Int → Option Int) (x6 : Int) (x7 : Int) : Option Int := (sX10_bestStand_b61 a0 a1 x2 x3 M K9 x6 x7 x6)
def sX10_bestStand_b9 (a0 : Nat) (a1 : Nat) (x2 : Int) (x3 : Int) (M : MM)  : Nat → Int → Int → Int → Option Int
  | 0, _, _, _ => none
  | n + 1, x4, x5, x6 => (if 25 ≤ wI x6 then (some (x4)) else ((sX11_ringOf x6).bind fun q_2 => (if wI q_2 ≤ wI (M a1 16) then (sX10_bestStand_b61 a0 a1 x2 x3 M (fun x4 x5 x6 => sX10_bestStand_b9 a0 a1 x2 x3 M n x4 x5 x6) x4 x5 x6) else ((sX10_shareIf a0 a1 x2 x3 x3 x6 M).bind fun q_4 => (if wI x4 = (-1) then (sX10_bestStand_b53 a0 a1 x2 x3 M (fun x4 x5 x6 => sX10_bestStand_b9 a0 a1 x2 x3 M n x4 x5 x6) x6 q_4) else (if wI q_4 ≤ wI x5 then (sX10_bestStand_b61 a0 a1 x2 x3 M (fun x4 x5 x6 => sX10_bestStand_b9 a0 a1 x2 x3 M n x4 x5 x6) x4 x5 x6) else (sX10_bestStand_b53 a0 a1 x2 x3 M (fun x4 x5 x6 => sX10_bestStand_b9 a0 a1 x2 x3 M n x4 x5 x6) x6 q_4)))))))
def sX10_bestStand_b0 (a0 : Nat) (a1 : Nat) (x2 : Int) (x3 : Int) (M : MM)   : Option Int := (sX10_bestStand_b9 a0 a1 x2 x3 M FU (-1) 0 0)
def sX10_bestStand (a0 : Nat) (a1 : Nat) (x2 : Int) (x3 : Int) (M : MM) : Option Int := sX10_bestStand_b0 a0 a1 x2 x3 M
set_option maxHeartbeats 4000000 in
set_option maxRecDepth 100000 in
theorem bX10_bestStand_b61 {G : GG} (a0 : Nat) (a1 : Nat) (x2 : Int) (x3 : Int) (M : MM) (oa0 : OB L0 a0 10) (oa1 : OB L0 a1 5) {K9 : Int → Int → Int → Option Int} (x4 : Int) (x5 : Int) (x6 : Int) {res : Int} (hK9 : ∀ (x4 : Int) (x5 : Int) (x6 : Int), K9 x4 x5 x6 = some res → VV G xX10_bestStand (ZM G xX10_bestStand (some (.int (eI res))) L0 M) L0 M 0 0 9 [(0, .ref (gA G a0)), (1, .ref (gA G a1)), (2, .int (eI x2)), (3, .int (eI x3)), (4, .int (eI x4)), (5, .int (eI x5)), (6, .int (eI x6))] [])  (h : sX10_bestStand_b61 a0 a1 x2 x3 M K9 x4 x5 x6 = some res) : VV G xX10_bestStand (ZM G xX10_bestStand (some (.int (eI res))) L0 M) L0 M 0 0 61 [(0, .ref (gA G a0)), (1, .ref (gA G a1)), (2, .int (eI x2)), (3, .int (eI x3)), (4, .int (eI x4)), (5, .int (eI x5)), (6, .int (eI x6))] [] := by
  unfold sX10_bestStand_b61 at h
  obtain ⟨v_1, hv_1, h⟩ := ob h
  refine r_iinc (pc := 61) (y := v_1) (lv' := [(6, .int (eI v_1)), (0, .ref (gA G a0)), (1, .ref (gA G a1)), (2, .int (eI x2)), (3, .int (eI x3)), (4, .int (eI x4)), (5, .int (eI x5))]) dX10_bestStand_61 6 rfl (Option.some.inj hv_1) (Nat.le_of_ble_eq_true rfl) rfl ?_
  refine r_goto (pc := 64) (tgt := 9) dX10_bestStand_64 (by decide) ?_
  refine r_sub (lv' := [(0, .ref (gA G a0)), (1, .ref (gA G a1)), (2, .int (eI x2)), (3, .int (eI x3)), (4, .int (eI x4)), (5, .int (eI x5)), (6, .int (eI v_1))]) [1, 2, 3, 4, 5, 6, 0] rfl ?_
  exact hK9 _ _ _ h
set_option maxHeartbeats 4000000 in
set_option maxRecDepth 100000 in
theorem bX10_bestStand_b53 {G : GG} (a0 : Nat) (a1 : Nat) (x2 : Int) (x3 : Int) (M : MM) (oa0 : OB L0 a0 10) (oa1 : OB L0 a1 5) {K9 : Int → Int → Int → Option Int} (x6 : Int) (x7 : Int) {res : Int} (hK9 : ∀ (x4 : Int) (x5 : Int) (x6 : Int), K9 x4 x5 x6 = some res → VV G xX10_bestStand (ZM G xX10_bestStand (some (.int (eI res))) L0 M) L0 M 0 0 9 [(0, .ref (gA G a0)), (1, .ref (gA G a1)), (2, .int (eI x2)), (3, .int (eI x3)), (4, .int (eI x4)), (5, .int (eI x5)), (6, .int (eI x6))] [])  (h : sX10_bestStand_b53 a0 a1 x2 x3 M K9 x6 x7 = some res) : VV G xX10_bestStand (ZM G xX10_bestStand (some (.int (eI res))) L0 M) L0 M 0 0 53 [(0, .ref (gA G a0)), (1, .ref (gA G a1)), (2, .int (eI x2)), (3, .int (eI x3)), (6, .int (eI x6)), (7, .int (eI x7))] [] := by
  unfold sX10_bestStand_b53 at h
  refine r_iload (pc := 53) dX10_bestStand_53 4 rfl ?_
  refine r_istore (pc := 55) (lv' := [(4, .int (eI x6)), (0, .ref (gA G a0)), (1, .ref (gA G a1)), (2, .int (eI x2)), (3, .int (eI x3)), (6, .int (eI x6)), (7, .int (eI x7))]) dX10_bestStand_55 (Nat.le_of_ble_eq_true rfl) rfl ?_
  refine r_iload (pc := 57) dX10_bestStand_57 6 rfl ?_
  refine r_istore (pc := 59) (lv' := [(5, .int (eI x7)), (4, .int (eI x6)), (0, .ref (gA G a0)), (1, .ref (gA G a1)), (2, .int (eI x2)), (3, .int (eI x3)), (6, .int (eI x6)), (7, .int (eI x7))]) dX10_bestStand_59 (Nat.le_of_ble_eq_true rfl) rfl ?_
  refine r_sub (lv' := [(0, .ref (gA G a0)), (1, .ref (gA G a1)), (2, .int (eI x2)), (3, .int (eI x3)), (4, .int (eI x6)), (5, .int (eI x7)), (6, .int (eI x6))]) [2, 3, 4, 5, 1, 0, 6] rfl ?_
  exact bX10_bestStand_b61 a0 a1 x2 x3 M oa0 oa1 _ _ _ hK9 h
set_option maxHeartbeats 4000000 in
set_option maxRecDepth 100000 in
theorem bX10_bestStand_b9 {G : GG} (a0 : Nat) (a1 : Nat) (x2 : Int) (x3 : Int) (M : MM) (oa0 : OB L0 a0 10) (oa1 : OB L0 a1 5) {res : Int} : ∀ (n : Nat) (x4 : Int) (x5 : Int) (x6 : Int)  (h : sX10_bestStand_b9 a0 a1 x2 x3 M n x4 x5 x6 = some res), VV G xX10_bestStand (ZM G xX10_bestStand (some (.int (eI res))) L0 M) L0 M 0 0 9 [(0, .ref (gA G a0)), (1, .ref (gA G a1)), (2, .int (eI x2)), (3, .int (eI x3)), (4, .int (eI x4)), (5, .int (eI x5)), (6, .int (eI x6))] [] := by
  intro n
  induction n with
  | zero =>
    intro x4 x5 x6 h
    rw [sX10_bestStand_b9] at h
    cases h
  | succ n ih =>
    intro x4 x5 x6 h
    rw [sX10_bestStand_b9] at h
    refine r_iload (pc := 9) dX10_bestStand_9 6 rfl ?_
    refine r_bipush (pc := 11) (v := 25) dX10_bestStand_11 (by decide +kernel) ?_
    refine r_icmp_ge (pc := 13) (tgt := 67) dX10_bestStand_13 (by decide) rfl wl_25 (fun c_1 => ?_) (fun c_1 => ?_)
    · replace h := (if_pos c_1).symm.trans h
      refine r_iload (pc := 67) dX10_bestStand_67 4 rfl ?_
      cases h
      exact r_iret (pc := 69) rfl rfl (Nat.le_refl 0) (Nat.le_refl 0) dX10_bestStand_69
    · replace h := (if_neg c_1).symm.trans h
      refine r_iload (pc := 16) dX10_bestStand_16 6 rfl ?_
      obtain ⟨q_2, hq_2, h⟩ := ob h
      refine r_cN (pc := 18) (Y := xX11_ringOf) (As := [.int (eI x6)]) (rest := []) (v := (some (.int (eI q_2)))) (st1 := [.int (eI q_2)]) ck_X10_bestStand_48 (kX11_ringOf x6 M  hq_2) rfl rfl (Nat.le_of_ble_eq_true rfl) ⟨rfl, rfl⟩ rfl dX10_bestStand_18 ?_
      refine r_aload_n (pc := 21) (i := 1) dX10_bestStand_21 rfl 1 rfl ?_
      refine r_getI (pc := 22) fg_10_51 rfl oa1 dX10_bestStand_22 ?_
      refine r_icmp_le (pc := 25) (tgt := 61) dX10_bestStand_25 (by decide) rfl rfl (fun c_3 => ?_) (fun c_3 => ?_)
      · replace h := (if_pos c_3).symm.trans h
        refine r_sub (lv' := [(0, .ref (gA G a0)), (1, .ref (gA G a1)), (2, .int (eI x2)), (3, .int (eI x3)), (4, .int (eI x4)), (5, .int (eI x5)), (6, .int (eI x6))]) [0, 1, 2, 3, 4, 5, 6] rfl ?_
        exact bX10_bestStand_b61 a0 a1 x2 x3 M oa0 oa1 _ _ _ (fun v0 v1 v2 v3 => ih v0 v1 v2 v3) h
      · replace h := (if_neg c_3).symm.trans h
        refine r_aload_n (pc := 28) (i := 0) dX10_bestStand_28 rfl 0 rfl ?_
        refine r_aload_n (pc := 29) (i := 1) dX10_bestStand_29 rfl 1 rfl ?_
        refine r_iload_n (pc := 30) (i := 2) dX10_bestStand_30 rfl 2 rfl ?_
        refine r_iload_n (pc := 31) (i := 3) dX10_bestStand_31 rfl 3 rfl ?_
        refine r_iload_n (pc := 32) (i := 3) dX10_bestStand_32 rfl 3 rfl ?_
        refine r_iload (pc := 33) dX10_bestStand_33 6 rfl ?_
        obtain ⟨q_4, hq_4, h⟩ := ob h
        refine r_cV (pc := 35) (Y := xX10_shareIf) (As := [.ref (gA G a1), .int (eI x2), .int (eI x3), .int (eI x3), .int (eI x6)]) (rest := []) (v := (some (.int (eI q_4)))) (st1 := [.int (eI q_4)]) ck_X10_bestStand_45 (kX10_shareIf a0 a1 x2 x3 x3 x6 M oa0 oa1 hq_4) oa0 rfl rfl rfl rfl (Nat.le_of_ble_eq_true rfl) ⟨rfl, rfl⟩ rfl dX10_bestStand_35 ?_
        refine r_istore (pc := 38) (lv' := [(7, .int (eI q_4)), (0, .ref (gA G a0)), (1, .ref (gA G a1)), (2, .int (eI x2)), (3, .int (eI x3)), (4, .int (eI x4)), (5, .int (eI x5)), (6, .int (eI x6))]) dX10_bestStand_38 (Nat.le_of_ble_eq_true rfl) rfl ?_
        refine r_iload (pc := 40) dX10_bestStand_40 5 rfl ?_
        refine r_iconst (pc := 42) (v := (-1)) dX10_bestStand_42 (by decide +kernel) ?_
        refine r_icmp_eq (pc := 43) (tgt := 53) dX10_bestStand_43 (by decide) rfl wl_m1 (fun c_5 => ?_) (fun c_5 => ?_)
        · replace h := (if_pos c_5).symm.trans h
          refine r_sub (lv' := [(0, .ref (gA G a0)), (1, .ref (gA G a1)), (2, .int (eI x2)), (3, .int (eI x3)), (6, .int (eI x6)), (7, .int (eI q_4))]) [1, 2, 3, 4, 7, 0] rfl ?_
          exact bX10_bestStand_b53 a0 a1 x2 x3 M oa0 oa1 _ _ (fun v0 v1 v2 v3 => ih v0 v1 v2 v3) h
        · replace h := (if_neg c_5).symm.trans h
          refine r_iload (pc := 46) dX10_bestStand_46 0 rfl ?_
          refine r_iload (pc := 48) dX10_bestStand_48 6 rfl ?_
          refine r_icmp_le (pc := 50) (tgt := 61) dX10_bestStand_50 (by decide) rfl rfl (fun c_6 => ?_) (fun c_6 => ?_)
          · replace h := (if_pos c_6).symm.trans h
            refine r_sub (lv' := [(0, .ref (gA G a0)), (1, .ref (gA G a1)), (2, .int (eI x2)), (3, .int (eI x3)), (4, .int (eI x4)), (5, .int (eI x5)), (6, .int (eI x6))]) [1, 2, 3, 4, 5, 6, 7] rfl ?_
            exact bX10_bestStand_b61 a0 a1 x2 x3 M oa0 oa1 _ _ _ (fun v0 v1 v2 v3 => ih v0 v1 v2 v3) h
          · replace h := (if_neg c_6).symm.trans h
            refine r_sub (lv' := [(0, .ref (gA G a0)), (1, .ref (gA G a1)), (2, .int (eI x2)), (3, .int (eI x3)), (6, .int (eI x6)), (7, .int (eI q_4))]) [1, 2, 3, 4, 7, 0] rfl ?_
            exact bX10_bestStand_b53 a0 a1 x2 x3 M oa0 oa1 _ _ (fun v0 v1 v2 v3 => ih v0 v1 v2 v3) h
set_option maxHeartbeats 4000000 in
set_option maxRecDepth 100000 in
theorem bX10_bestStand_b0 {G : GG} (a0 : Nat) (a1 : Nat) (x2 : Int) (x3 : Int) (M : MM) (oa0 : OB L0 a0 10) (oa1 : OB L0 a1 5)  {res : Int}  (h : sX10_bestStand_b0 a0 a1 x2 x3 M = some res) : VV G xX10_bestStand (ZM G xX10_bestStand (some (.int (eI res))) L0 M) L0 M 0 0 0 [(0, .ref (gA G a0)), (1, .ref (gA G a1)), (2, .int (eI x2)), (3, .int (eI x3))] [] := by
  unfold sX10_bestStand_b0 at h
  refine r_iconst (pc := 0) (v := (-1)) dX10_bestStand_0 (by decide +kernel) ?_
  refine r_istore (pc := 1) (lv' := [(4, .int (eI (-1))), (0, .ref (gA G a0)), (1, .ref (gA G a1)), (2, .int (eI x2)), (3, .int (eI x3))]) dX10_bestStand_1 (Nat.le_of_ble_eq_true rfl) rfl ?_
  refine r_iconst (pc := 3) (v := 0) dX10_bestStand_3 (by decide +kernel) ?_
  refine r_istore (pc := 4) (lv' := [(5, .int (eI 0)), (4, .int (eI (-1))), (0, .ref (gA G a0)), (1, .ref (gA G a1)), (2, .int (eI x2)), (3, .int (eI x3))]) dX10_bestStand_4 (Nat.le_of_ble_eq_true rfl) rfl ?_
  refine r_iconst (pc := 6) (v := 0) dX10_bestStand_6 (by decide +kernel) ?_
  refine r_istore (pc := 7) (lv' := [(6, .int (eI 0)), (5, .int (eI 0)), (4, .int (eI (-1))), (0, .ref (gA G a0)), (1, .ref (gA G a1)), (2, .int (eI x2)), (3, .int (eI x3))]) dX10_bestStand_7 (Nat.le_of_ble_eq_true rfl) rfl ?_
  refine r_sub (lv' := [(0, .ref (gA G a0)), (1, .ref (gA G a1)), (2, .int (eI x2)), (3, .int (eI x3)), (4, .int (eI (-1))), (5, .int (eI 0)), (6, .int (eI 0))]) [3, 4, 5, 6, 2, 1, 0] rfl ?_
  exact bX10_bestStand_b9 a0 a1 x2 x3 M oa0 oa1 _ _ _ _ h
theorem kX10_bestStand {G : GG} (a0 : Nat) (a1 : Nat) (x2 : Int) (x3 : Int) (M : MM) {res : Int} (oa0 : OB L0 a0 10) (oa1 : OB L0 a1 5) (h : sX10_bestStand a0 a1 x2 x3 M = some res) : CO G xX10_bestStand [.ref (gA G a0), .ref (gA G a1), .int (eI x2), .int (eI x3)] L0 M (some (.int (eI res))) L0 M := CO_of (by decide +kernel) (Nat.le_of_ble_eq_true rfl) (bX10_bestStand_b0 a0 a1 x2 x3 M oa0 oa1 h)
abbrev xX10_queueUp : XX := (yX10_queueUp, cX10_queueUp, 5, none, 0, 0, 0, 0)
def sX10_queueUp_b67 (a0 : Nat) (a1 : Nat) (x2 : Int) (K2 : Int → MM → Option MM) (x3 : Int) (x4 : Int) (M : MM) : Option MM := (if 0 ≤ wI x4 ∧ wI x4 < 8 then ((some (mU M (gR a0 1) (wI x4).toNat x3)).bind fun M_3 => ((some (x3 + 1)).bind fun v_4 => (K2 v_4 M_3))) else none)
def sX10_queueUp_b13 (a0 : Nat) (a1 : Nat) (x2 : Int) (K2 : Int → MM → Option MM) : Nat → Int → Int → MM → Option MM
  | 0, _, _, _ => none
  | n + 1, x3, x4, M => (if wI x2 = 0 then (sX10_queueUp_b67 a0 a1 x2 K2 x3 x4 M) else (if wI x4 ≤ 0 then (sX10_queueUp_b67 a0 a1 x2 K2 x3 x4 M) else (if 0 ≤ wI (x4 - 1) ∧ wI (x4 - 1) < 8 then (if 0 ≤ wI (M (gR a0 1) (wI (x4 - 1)).toNat) ∧ wI (M (gR a0 1) (wI (x4 - 1)).toNat) < 8 then (if 0 ≤ wI x3 ∧ wI x3 < 8 then (if wI (M (gR a1 4) (wI (M (gR a0 1) (wI (x4 - 1)).toNat)).toNat) ≤ wI (M (gR a1 4) (wI x3).toNat) then (sX10_queueUp_b67 a0 a1 x2 K2 x3 x4 M) else (if 0 ≤ wI (x4 - 1) ∧ wI (x4 - 1) < 8 then (if 0 ≤ wI x4 ∧ wI x4 < 8 then ((some (mU M (gR a0 1) (wI x4).toNat (M (gR a0 1) (wI (x4 - 1)).toNat))).bind fun M_14 => ((some (x4 + (-1))).bind fun v_15 => (sX10_queueUp_b13 a0 a1 x2 K2 n x3 v_15 M_14))) else none) else none)) else none) else none) else none)))
def sX10_queueUp_b2 (a0 : Nat) (a1 : Nat) (x2 : Int)  : Nat → Int → MM → Option MM
  | 0, _, _ => none
  | n + 1, x3, M => (if wI (M a1 3) ≤ wI x3 then (some (M)) else (sX10_queueUp_b13 a0 a1 x2 (fun x3 M => sX10_queueUp_b2 a0 a1 x2 n x3 M) FU x3 x3 M))
def sX10_queueUp_b0 (a0 : Nat) (a1 : Nat) (x2 : Int)   (M : MM) : Option MM := (sX10_queueUp_b2 a0 a1 x2 FU 0 M)
def sX10_queueUp (a0 : Nat) (a1 : Nat) (x2 : Int) (M : MM) : Option MM := sX10_queueUp_b0 a0 a1 x2 M
set_option maxHeartbeats 4000000 in
set_option maxRecDepth 100000 in
theorem bX10_queueUp_b67 {G : GG} (a0 : Nat) (a1 : Nat) (x2 : Int) (oa0 : OB L0 a0 10) (oa1 : OB L0 a1 5) {K2 : Int → MM → Option MM} (x3 : Int) (x4 : Int) (M : MM) {res : MM} (hK2 : ∀ (x3 : Int) (M : MM), K2 x3 M = some res → VV G xX10_queueUp (ZM G xX10_queueUp (none) L0 res) L0 M 0 0 2 [(0, .ref (gA G a0)), (1, .ref (gA G a1)), (2, .int (eI x2)), (3, .int (eI x3))] [])  (h : sX10_queueUp_b67 a0 a1 x2 K2 x3 x4 M = some res) : VV G xX10_queueUp (ZM G xX10_queueUp (none) L0 res) L0 M 0 0 67 [(0, .ref (gA G a0)), (1, .ref (gA G a1)), (2, .int (eI x2)), (3, .int (eI x3)), (4, .int (eI x4))] [] := by
  unfold sX10_queueUp_b67 at h
  refine r_aload_n (pc := 67) (i := 0) dX10_queueUp_67 rfl 0 rfl ?_
  have o_1 := (wt_10_1 oa0).2
  refine r_getR (pc := 68) fg_10_15 rfl oa0 (wt_10_1 oa0).1 dX10_queueUp_68 ?_
  refine r_iload (pc := 71) dX10_queueUp_71 4 rfl ?_
  refine r_iload_n (pc := 73) (i := 3) dX10_queueUp_73 rfl 3 rfl ?_
  obtain ⟨c_2, h⟩ := og h
  obtain ⟨M_3, hM_3, h⟩ := ob h
  refine r_iast (pc := 74) o_1 rfl c_2 rfl hM_3 dX10_queueUp_74 ?_
  obtain ⟨v_4, hv_4, h⟩ := ob h
  refine r_iinc (pc := 75) (y := v_4) (lv' := [(3, .int (eI v_4)), (0, .ref (gA G a0)), (1, .ref (gA G a1)), (2, .int (eI x2)), (4, .int (eI x4))]) dX10_queueUp_75 3 rfl (Option.some.inj hv_4) (Nat.le_of_ble_eq_true rfl) rfl ?_
  refine r_goto (pc := 78) (tgt := 2) dX10_queueUp_78 (by decide) ?_
  refine r_sub (lv' := [(0, .ref (gA G a0)), (1, .ref (gA G a1)), (2, .int (eI x2)), (3, .int (eI v_4))]) [1, 2, 3, 0] rfl ?_
  exact hK2 _ _ h
set_option maxHeartbeats 4000000 in
set_option maxRecDepth 100000 in
theorem bX10_queueUp_b13 {G : GG} (a0 : Nat) (a1 : Nat) (x2 : Int) (oa0 : OB L0 a0 10) (oa1 : OB L0 a1 5) {K2 : Int → MM → Option MM} {res : MM} (hK2 : ∀ (x3 : Int) (M : MM), K2 x3 M = some res → VV G xX10_queueUp (ZM G xX10_queueUp (none) L0 res) L0 M 0 0 2 [(0, .ref (gA G a0)), (1, .ref (gA G a1)), (2, .int (eI x2)), (3, .int (eI x3))] []) : ∀ (n : Nat) (x3 : Int) (x4 : Int) (M : MM)  (h : sX10_queueUp_b13 a0 a1 x2 K2 n x3 x4 M = some res), VV G xX10_queueUp (ZM G xX10_queueUp (none) L0 res) L0 M 0 0 13 [(0, .ref (gA G a0)), (1, .ref (gA G a1)), (2, .int (eI x2)), (3, .int (eI x3)), (4, .int (eI x4))] [] := by
  intro n
  induction n with
  | zero =>
    intro x3 x4 M h
    rw [sX10_queueUp_b13] at h
    cases h
  | succ n ih =>
    intro x3 x4 M h
    rw [sX10_queueUp_b13] at h
    refine r_iload_n (pc := 13) (i := 2) dX10_queueUp_13 rfl 2 rfl ?_
    refine r_if_eq (pc := 14) (tgt := 67) dX10_queueUp_14 (by decide) rfl (fun c_1 => ?_) (fun c_1 => ?_)
    · replace h := (if_pos c_1).symm.trans h
      refine r_sub (lv' := [(0, .ref (gA G a0)), (1, .ref (gA G a1)), (2, .int (eI x2)), (3, .int (eI x3)), (4, .int (eI x4))]) [0, 1, 2, 3, 4] rfl ?_
      exact bX10_queueUp_b67 a0 a1 x2 oa0 oa1 _ _ _ hK2 h
    · replace h := (if_neg c_1).symm.trans h
      refine r_iload (pc := 17) dX10_queueUp_17 4 rfl ?_
      refine r_if_le (pc := 19) (tgt := 67) dX10_queueUp_19 (by decide) rfl (fun c_2 => ?_) (fun c_2 => ?_)
      · replace h := (if_pos c_2).symm.trans h
        refine r_sub (lv' := [(0, .ref (gA G a0)), (1, .ref (gA G a1)), (2, .int (eI x2)), (3, .int (eI x3)), (4, .int (eI x4))]) [0, 1, 2, 3, 4] rfl ?_
        exact bX10_queueUp_b67 a0 a1 x2 oa0 oa1 _ _ _ hK2 h
      · replace h := (if_neg c_2).symm.trans h
        refine r_aload_n (pc := 22) (i := 1) dX10_queueUp_22 rfl 1 rfl ?_
        have o_3 := (wt_5_4 oa1).2
        refine r_getR (pc := 23) fg_10_95 rfl oa1 (wt_5_4 oa1).1 dX10_queueUp_23 ?_
        refine r_aload_n (pc := 26) (i := 0) dX10_queueUp_26 rfl 0 rfl ?_
        have o_4 := (wt_10_1 oa0).2
        refine r_getR (pc := 27) fg_10_15 rfl oa0 (wt_10_1 oa0).1 dX10_queueUp_27 ?_
        refine r_iload (pc := 30) dX10_queueUp_30 4 rfl ?_
        refine r_iconst (pc := 32) (v := 1) dX10_queueUp_32 (by decide +kernel) ?_
        refine r_isub (pc := 33) dX10_queueUp_33 ?_
        obtain ⟨c_5, h⟩ := og h
        refine r_iald (pc := 34) o_4 rfl c_5 rfl dX10_queueUp_34 ?_
        obtain ⟨c_6, h⟩ := og h
        refine r_iald (pc := 35) o_3 rfl c_6 rfl dX10_queueUp_35 ?_
        refine r_aload_n (pc := 36) (i := 1) dX10_queueUp_36 rfl 1 rfl ?_
        have o_7 := (wt_5_4 oa1).2
        refine r_getR (pc := 37) fg_10_95 rfl oa1 (wt_5_4 oa1).1 dX10_queueUp_37 ?_
        refine r_iload_n (pc := 40) (i := 3) dX10_queueUp_40 rfl 3 rfl ?_
        obtain ⟨c_8, h⟩ := og h
        refine r_iald (pc := 41) o_7 rfl c_8 rfl dX10_queueUp_41 ?_
        refine r_icmp_le (pc := 42) (tgt := 67) dX10_queueUp_42 (by decide) rfl rfl (fun c_9 => ?_) (fun c_9 => ?_)
        · replace h := (if_pos c_9).symm.trans h
          refine r_sub (lv' := [(0, .ref (gA G a0)), (1, .ref (gA G a1)), (2, .int (eI x2)), (3, .int (eI x3)), (4, .int (eI x4))]) [0, 1, 2, 3, 4] rfl ?_
          exact bX10_queueUp_b67 a0 a1 x2 oa0 oa1 _ _ _ hK2 h
        · replace h := (if_neg c_9).symm.trans h
          refine r_aload_n (pc := 45) (i := 0) dX10_queueUp_45 rfl 0 rfl ?_
          have o_10 := (wt_10_1 oa0).2
          refine r_getR (pc := 46) fg_10_15 rfl oa0 (wt_10_1 oa0).1 dX10_queueUp_46 ?_
          refine r_iload (pc := 49) dX10_queueUp_49 4 rfl ?_
          refine r_aload_n (pc := 51) (i := 0) dX10_queueUp_51 rfl 0 rfl ?_
          have o_11 := (wt_10_1 oa0).2
          refine r_getR (pc := 52) fg_10_15 rfl oa0 (wt_10_1 oa0).1 dX10_queueUp_52 ?_
          refine r_iload (pc := 55) dX10_queueUp_55 4 rfl ?_
          refine r_iconst (pc := 57) (v := 1) dX10_queueUp_57 (by decide +kernel) ?_
          refine r_isub (pc := 58) dX10_queueUp_58 ?_
          obtain ⟨c_12, h⟩ := og h
          refine r_iald (pc := 59) o_11 rfl c_12 rfl dX10_queueUp_59 ?_
          obtain ⟨c_13, h⟩ := og h
          obtain ⟨M_14, hM_14, h⟩ := ob h
          refine r_iast (pc := 60) o_10 rfl c_13 rfl hM_14 dX10_queueUp_60 ?_
          obtain ⟨v_15, hv_15, h⟩ := ob h
          refine r_iinc (pc := 61) (y := v_15) (lv' := [(4, .int (eI v_15)), (0, .ref (gA G a0)), (1, .ref (gA G a1)), (2, .int (eI x2)), (3, .int (eI x3))]) dX10_queueUp_61 4 rfl (Option.some.inj hv_15) (Nat.le_of_ble_eq_true rfl) rfl ?_
          refine r_goto (pc := 64) (tgt := 13) dX10_queueUp_64 (by decide) ?_
          refine r_sub (lv' := [(0, .ref (gA G a0)), (1, .ref (gA G a1)), (2, .int (eI x2)), (3, .int (eI x3)), (4, .int (eI v_15))]) [1, 2, 3, 4, 0] rfl ?_
          exact ih _ _ _ h
set_option maxHeartbeats 4000000 in
set_option maxRecDepth 100000 in
theorem bX10_queueUp_b2 {G : GG} (a0 : Nat) (a1 : Nat) (x2 : Int) (oa0 : OB L0 a0 10) (oa1 : OB L0 a1 5) {res : MM} : ∀ (n : Nat) (x3 : Int) (M : MM)  (h : sX10_queueUp_b2 a0 a1 x2 n x3 M = some res), VV G xX10_queueUp (ZM G xX10_queueUp (none) L0 res) L0 M 0 0 2 [(0, .ref (gA G a0)), (1, .ref (gA G a1)), (2, .int (eI x2)), (3, .int (eI x3))] [] := by
  intro n
  induction n with
  | zero =>
    intro x3 M h
    rw [sX10_queueUp_b2] at h
    cases h
  | succ n ih =>
    intro x3 M h
    rw [sX10_queueUp_b2] at h
    refine r_iload_n (pc := 2) (i := 3) dX10_queueUp_2 rfl 3 rfl ?_
    refine r_aload_n (pc := 3) (i := 1) dX10_queueUp_3 rfl 1 rfl ?_
    refine r_getI (pc := 4) fg_10_22 rfl oa1 dX10_queueUp_4 ?_
    refine r_icmp_ge (pc := 7) (tgt := 81) dX10_queueUp_7 (by decide) rfl rfl (fun c_1 => ?_) (fun c_1 => ?_)
    · replace h := (if_pos c_1).symm.trans h
      cases h
      exact r_vret (pc := 81) rfl (Nat.le_refl 0) (Nat.le_refl 0) dX10_queueUp_81
    · replace h := (if_neg c_1).symm.trans h
      refine r_iload_n (pc := 10) (i := 3) dX10_queueUp_10 rfl 3 rfl ?_
      refine r_istore (pc := 11) (lv' := [(4, .int (eI x3)), (0, .ref (gA G a0)), (1, .ref (gA G a1)), (2, .int (eI x2)), (3, .int (eI x3))]) dX10_queueUp_11 (Nat.le_of_ble_eq_true rfl) rfl ?_
      refine r_sub (lv' := [(0, .ref (gA G a0)), (1, .ref (gA G a1)), (2, .int (eI x2)), (3, .int (eI x3)), (4, .int (eI x3))]) [1, 2, 3, 4, 0] rfl ?_
      exact bX10_queueUp_b13 a0 a1 x2 oa0 oa1 (fun v0 v1 v2 => ih v0 v1 v2) _ _ _ _ h
set_option maxHeartbeats 4000000 in
set_option maxRecDepth 100000 in
theorem bX10_queueUp_b0 {G : GG} (a0 : Nat) (a1 : Nat) (x2 : Int) (oa0 : OB L0 a0 10) (oa1 : OB L0 a1 5)  (M : MM) {res : MM}  (h : sX10_queueUp_b0 a0 a1 x2 M = some res) : VV G xX10_queueUp (ZM G xX10_queueUp (none) L0 res) L0 M 0 0 0 [(0, .ref (gA G a0)), (1, .ref (gA G a1)), (2, .int (eI x2))] [] := by
  unfold sX10_queueUp_b0 at h
  refine r_iconst (pc := 0) (v := 0) dX10_queueUp_0 (by decide +kernel) ?_
  refine r_istore_n (pc := 1) (i := 3) (lv' := [(3, .int (eI 0)), (0, .ref (gA G a0)), (1, .ref (gA G a1)), (2, .int (eI x2))]) dX10_queueUp_1 rfl (Nat.le_of_ble_eq_true rfl) rfl ?_
  refine r_sub (lv' := [(0, .ref (gA G a0)), (1, .ref (gA G a1)), (2, .int (eI x2)), (3, .int (eI 0))]) [1, 2, 3, 0] rfl ?_
  exact bX10_queueUp_b2 a0 a1 x2 oa0 oa1 _ _ _ h
theorem kX10_queueUp {G : GG} (a0 : Nat) (a1 : Nat) (x2 : Int) (M : MM) {res : MM} (oa0 : OB L0 a0 10) (oa1 : OB L0 a1 5) (h : sX10_queueUp a0 a1 x2 M = some res) : CO G xX10_queueUp [.ref (gA G a0), .ref (gA G a1), .int (eI x2)] L0 M (none) L0 res := CO_of (by decide +kernel) (Nat.le_of_ble_eq_true rfl) (bX10_queueUp_b0 a0 a1 x2 oa0 oa1 M h)
abbrev xX10_dealOut : XX := (yX10_dealOut, cX10_dealOut, 4, none, 1, 22, 0, 0)
theorem ck_X10_dealOut_84 : CKV xX10_dealOut 84 xX10_addToBag 2 := ⟨⟨tb_i 1281 (by decide +kernel) (by decide +kernel), tb_i 150 (by decide +kernel) (by decide +kernel), tb_i 1284 (by decide +kernel) (by decide +kernel), ⟨by decide +kernel, by decide +kernel, by decide +kernel⟩, by decide, by decide⟩, tb_i 1282 (by decide +kernel) (by decide +kernel), tb_i 1283 (by decide +kernel) (by decide +kernel)⟩
def sX10_dealOut_b2 (a0 : Nat) (a1 : Nat) (x2 : Int)  : Nat → Int → MM → Option MM
  | 0, _, _ => none
  | n + 1, x3, M => (if wI x2 ≤ wI x3 then (some (M)) else (if wI (M a1 3) ≤ 0 then (some (M)) else (if wI (M a1 3) ≠ 0 then (if 0 ≤ wI (Int.tmod (wI x3) (wI (M a1 3))) ∧ wI (Int.tmod (wI x3) (wI (M a1 3))) < 8 then ((sX10_addToBag a0 (M (gR a0 1) (wI (Int.tmod (wI x3) (wI (M a1 3)))).toNat) 1 M).bind fun q_6 => ((some (x3 + 1)).bind fun v_7 => (sX10_dealOut_b2 a0 a1 x2 n v_7 q_6))) else none) else none)))
def sX10_dealOut_b0 (a0 : Nat) (a1 : Nat) (x2 : Int)   (M : MM) : Option MM := (sX10_dealOut_b2 a0 a1 x2 FU 0 M)
def sX10_dealOut (a0 : Nat) (a1 : Nat) (x2 : Int) (M : MM) : Option MM := sX10_dealOut_b0 a0 a1 x2 M
set_option maxHeartbeats 4000000 in
set_option maxRecDepth 100000 in
theorem bX10_dealOut_b2 {G : GG} (a0 : Nat) (a1 : Nat) (x2 : Int) (oa0 : OB L0 a0 10) (oa1 : OB L0 a1 5) {res : MM} : ∀ (n : Nat) (x3 : Int) (M : MM)  (h : sX10_dealOut_b2 a0 a1 x2 n x3 M = some res), VV G xX10_dealOut (ZM G xX10_dealOut (none) L0 res) L0 M 0 0 2 [(0, .ref (gA G a0)), (1, .ref (gA G a1)), (2, .int (eI x2)), (3, .int (eI x3))] [] := by
  intro n
  induction n with
  | zero =>
    intro x3 M h
    rw [sX10_dealOut_b2] at h
    cases h
  | succ n ih =>
    intro x3 M h
    rw [sX10_dealOut_b2] at h
    refine r_iload_n (pc := 2) (i := 3) dX10_dealOut_2 rfl 3 rfl ?_
    refine r_iload_n (pc := 3) (i := 2) dX10_dealOut_3 rfl 2 rfl ?_
    refine r_icmp_ge (pc := 4) (tgt := 36) dX10_dealOut_4 (by decide) rfl rfl (fun c_1 => ?_) (fun c_1 => ?_)
    · replace h := (if_pos c_1).symm.trans h
      cases h
      exact r_vret (pc := 36) rfl (Nat.le_refl 0) (Nat.le_refl 0) dX10_dealOut_36
    · replace h := (if_neg c_1).symm.trans h
      refine r_aload_n (pc := 7) (i := 1) dX10_dealOut_7 rfl 1 rfl ?_
      refine r_getI (pc := 8) fg_10_22 rfl oa1 dX10_dealOut_8 ?_
      refine r_if_le (pc := 11) (tgt := 36) dX10_dealOut_11 (by decide) rfl (fun c_2 => ?_) (fun c_2 => ?_)
      · replace h := (if_pos c_2).symm.trans h
        cases h
        exact r_vret (pc := 36) rfl (Nat.le_refl 0) (Nat.le_refl 0) dX10_dealOut_36
      · replace h := (if_neg c_2).symm.trans h
        refine r_aload_n (pc := 14) (i := 0) dX10_dealOut_14 rfl 0 rfl ?_
        refine r_aload_n (pc := 15) (i := 0) dX10_dealOut_15 rfl 0 rfl ?_
        have o_3 := (wt_10_1 oa0).2
        refine r_getR (pc := 16) fg_10_15 rfl oa0 (wt_10_1 oa0).1 dX10_dealOut_16 ?_
        refine r_iload_n (pc := 19) (i := 3) dX10_dealOut_19 rfl 3 rfl ?_
        refine r_aload_n (pc := 20) (i := 1) dX10_dealOut_20 rfl 1 rfl ?_
        refine r_getI (pc := 21) fg_10_22 rfl oa1 dX10_dealOut_21 ?_
        obtain ⟨c_4, h⟩ := og h
        refine r_irem (pc := 24) dX10_dealOut_24 rfl rfl c_4 ?_
        obtain ⟨c_5, h⟩ := og h
        refine r_iald (pc := 25) o_3 rfl c_5 rfl dX10_dealOut_25 ?_
        refine r_iconst (pc := 26) (v := 1) dX10_dealOut_26 (by decide +kernel) ?_
        obtain ⟨q_6, hq_6, h⟩ := ob h
        refine r_cV (pc := 27) (Y := xX10_addToBag) (As := [.int (eI (M (gR a0 1) (wI (Int.tmod (wI x3) (wI (M a1 3)))).toNat)), .int (eI 1)]) (rest := []) (v := none) (st1 := []) ck_X10_dealOut_84 (kX10_addToBag a0 (M (gR a0 1) (wI (Int.tmod (wI x3) (wI (M a1 3)))).toNat) 1 M oa0 hq_6) oa0 rfl rfl rfl rfl (Nat.le_of_ble_eq_true rfl) ⟨rfl, rfl⟩ rfl dX10_dealOut_27 ?_
        obtain ⟨v_7, hv_7, h⟩ := ob h
        refine r_iinc (pc := 30) (y := v_7) (lv' := [(3, .int (eI v_7)), (0, .ref (gA G a0)), (1, .ref (gA G a1)), (2, .int (eI x2))]) dX10_dealOut_30 3 rfl (Option.some.inj hv_7) (Nat.le_of_ble_eq_true rfl) rfl ?_
        refine r_goto (pc := 33) (tgt := 2) dX10_dealOut_33 (by decide) ?_
        refine r_sub (lv' := [(0, .ref (gA G a0)), (1, .ref (gA G a1)), (2, .int (eI x2)), (3, .int (eI v_7))]) [1, 2, 3, 0] rfl ?_
        exact ih _ _ h
set_option maxHeartbeats 4000000 in
set_option maxRecDepth 100000 in
theorem bX10_dealOut_b0 {G : GG} (a0 : Nat) (a1 : Nat) (x2 : Int) (oa0 : OB L0 a0 10) (oa1 : OB L0 a1 5)  (M : MM) {res : MM}  (h : sX10_dealOut_b0 a0 a1 x2 M = some res) : VV G xX10_dealOut (ZM G xX10_dealOut (none) L0 res) L0 M 0 0 0 [(0, .ref (gA G a0)), (1, .ref (gA G a1)), (2, .int (eI x2))] [] := by
  unfold sX10_dealOut_b0 at h
  refine r_iconst (pc := 0) (v := 0) dX10_dealOut_0 (by decide +kernel) ?_
  refine r_istore_n (pc := 1) (i := 3) (lv' := [(3, .int (eI 0)), (0, .ref (gA G a0)), (1, .ref (gA G a1)), (2, .int (eI x2))]) dX10_dealOut_1 rfl (Nat.le_of_ble_eq_true rfl) rfl ?_
  refine r_sub (lv' := [(0, .ref (gA G a0)), (1, .ref (gA G a1)), (2, .int (eI x2)), (3, .int (eI 0))]) [1, 2, 3, 0] rfl ?_
  exact bX10_dealOut_b2 a0 a1 x2 oa0 oa1 _ _ _ h
theorem kX10_dealOut {G : GG} (a0 : Nat) (a1 : Nat) (x2 : Int) (M : MM) {res : MM} (oa0 : OB L0 a0 10) (oa1 : OB L0 a1 5) (h : sX10_dealOut a0 a1 x2 M = some res) : CO G xX10_dealOut [.ref (gA G a0), .ref (gA G a1), .int (eI x2)] L0 M (none) L0 res := CO_of (by decide +kernel) (Nat.le_of_ble_eq_true rfl) (bX10_dealOut_b0 a0 a1 x2 oa0 oa1 M h)
abbrev xX10_giveThanks : XX := (yX10_giveThanks, cX10_giveThanks, 4, none, 2, 43, 0, 0)
theorem ck_X10_giveThanks_98 : CKV xX10_giveThanks 98 xX5_tieOf 2 := ⟨⟨tb_i 1291 (by decide +kernel) (by decide +kernel), tb_i 141 (by decide +kernel) (by decide +kernel), tb_i 890 (by decide +kernel) (by decide +kernel), ⟨by decide +kernel, by decide +kernel, by decide +kernel⟩, by decide, by decide⟩, tb_i 888 (by decide +kernel) (by decide +kernel), tb_i 889 (by decide +kernel) (by decide +kernel)⟩
def sX10_giveThanks_b113 (a0 : Nat) (a1 : Nat) (x2 : Int) (K62 : Int → MM → Option MM) (x3 : Int) (M : MM) : Option MM := ((some (x3 + 1)).bind fun v_1 => (K62 v_1 M))
def sX10_giveThanks_b62 (a0 : Nat) (a1 : Nat) (x2 : Int)  : Nat → Int → MM → Option MM
  | 0, _, _ => none
  | n + 1, x3, M => (if wI (M a1 3) ≤ wI x3 then (some (M)) else (if wI x3 = wI x2 then (sX10_giveThanks_b113 a0 a1 x2 (fun x3 M => sX10_giveThanks_b62 a0 a1 x2 n x3 M) x3 M) else (if 0 ≤ wI x2 ∧ wI x2 < 8 then (if wI (M (gR a0 0) (wI x2).toNat) ≤ 0 then (sX10_giveThanks_b113 a0 a1 x2 (fun x3 M => sX10_giveThanks_b62 a0 a1 x2 n x3 M) x3 M) else ((sX5_tieOf a1 x3 x2 M).bind fun q_6 => (if wI q_6 = 0 then (if 0 ≤ wI x2 ∧ wI x2 < 8 then (if 0 ≤ wI x2 ∧ wI x2 < 8 then ((some (mU M (gR a0 0) (wI x2).toNat ((M (gR a0 0) (wI x2).toNat) - 1))).bind fun M_11 => (if 0 ≤ wI x3 ∧ wI x3 < 8 then (if 0 ≤ wI x3 ∧ wI x3 < 8 then ((some (mU M_11 (gR a0 0) (wI x3).toNat ((M_11 (gR a0 0) (wI x3).toNat) + 1))).bind fun M_15 => (sX10_giveThanks_b113 a0 a1 x2 (fun x3 M => sX10_giveThanks_b62 a0 a1 x2 n x3 M) x3 M_15)) else none) else none)) else none) else none) else (sX10_giveThanks_b113 a0 a1 x2 (fun x3 M => sX10_giveThanks_b62 a0 a1 x2 n x3 M) x3 M)))) else none)))
def sX10_giveThanks_b54 (a0 : Nat) (a1 : Nat) (x2 : Int) (K2 : Int → MM → Option MM) (x3 : Int) (M : MM) : Option MM := ((some (x3 + 1)).bind fun v_1 => (K2 v_1 M))
def sX10_giveThanks_b2 (a0 : Nat) (a1 : Nat) (x2 : Int)  : Nat → Int → MM → Option MM
  | 0, _, _ => none
  | n + 1, x3, M => (if wI (M a1 3) ≤ wI x3 then (sX10_giveThanks_b62 a0 a1 x2 FU 0 M) else (if wI x3 = wI x2 then (sX10_giveThanks_b54 a0 a1 x2 (fun x3 M => sX10_giveThanks_b2 a0 a1 x2 n x3 M) x3 M) else (if 0 ≤ wI x3 ∧ wI x3 < 8 then (if wI (M (gR a0 0) (wI x3).toNat) ≤ 0 then (sX10_giveThanks_b54 a0 a1 x2 (fun x3 M => sX10_giveThanks_b2 a0 a1 x2 n x3 M) x3 M) else ((sX5_tieOf a1 x3 x2 M).bind fun q_6 => (if wI q_6 = 2 then (if 0 ≤ wI x3 ∧ wI x3 < 8 then (if 0 ≤ wI x3 ∧ wI x3 < 8 then ((some (mU M (gR a0 0) (wI x3).toNat ((M (gR a0 0) (wI x3).toNat) - 1))).bind fun M_11 => (if 0 ≤ wI x2 ∧ wI x2 < 8 then (if 0 ≤ wI x2 ∧ wI x2 < 8 then ((some (mU M_11 (gR a0 0) (wI x2).toNat ((M_11 (gR a0 0) (wI x2).toNat) + 1))).bind fun M_15 => (sX10_giveThanks_b54 a0 a1 x2 (fun x3 M => sX10_giveThanks_b2 a0 a1 x2 n x3 M) x3 M_15)) else none) else none)) else none) else none) else (sX10_giveThanks_b54 a0 a1 x2 (fun x3 M => sX10_giveThanks_b2 a0 a1 x2 n x3 M) x3 M)))) else none)))
def sX10_giveThanks_b0 (a0 : Nat) (a1 : Nat) (x2 : Int)   (M : MM) : Option MM := (sX10_giveThanks_b2 a0 a1 x2 FU 0 M)
def sX10_giveThanks (a0 : Nat) (a1 : Nat) (x2 : Int) (M : MM) : Option MM := sX10_giveThanks_b0 a0 a1 x2 M
set_option maxHeartbeats 4000000 in
set_option maxRecDepth 100000 in
theorem bX10_giveThanks_b113 {G : GG} (a0 : Nat) (a1 : Nat) (x2 : Int) (oa0 : OB L0 a0 10) (oa1 : OB L0 a1 5) {K62 : Int → MM → Option MM} (x3 : Int) (M : MM) {res : MM} (hK62 : ∀ (x3 : Int) (M : MM), K62 x3 M = some res → VV G xX10_giveThanks (ZM G xX10_giveThanks (none) L0 res) L0 M 0 0 62 [(0, .ref (gA G a0)), (1, .ref (gA G a1)), (2, .int (eI x2)), (3, .int (eI x3))] [])  (h : sX10_giveThanks_b113 a0 a1 x2 K62 x3 M = some res) : VV G xX10_giveThanks (ZM G xX10_giveThanks (none) L0 res) L0 M 0 0 113 [(0, .ref (gA G a0)), (1, .ref (gA G a1)), (2, .int (eI x2)), (3, .int (eI x3))] [] := by
  unfold sX10_giveThanks_b113 at h
  obtain ⟨v_1, hv_1, h⟩ := ob h
  refine r_iinc (pc := 113) (y := v_1) (lv' := [(3, .int (eI v_1)), (0, .ref (gA G a0)), (1, .ref (gA G a1)), (2, .int (eI x2))]) dX10_giveThanks_113 3 rfl (Option.some.inj hv_1) (Nat.le_of_ble_eq_true rfl) rfl ?_
  refine r_goto (pc := 116) (tgt := 62) dX10_giveThanks_116 (by decide) ?_
  refine r_sub (lv' := [(0, .ref (gA G a0)), (1, .ref (gA G a1)), (2, .int (eI x2)), (3, .int (eI v_1))]) [1, 2, 3, 0] rfl ?_
  exact hK62 _ _ h
set_option maxHeartbeats 4000000 in
set_option maxRecDepth 100000 in
theorem bX10_giveThanks_b62 {G : GG} (a0 : Nat) (a1 : Nat) (x2 : Int) (oa0 : OB L0 a0 10) (oa1 : OB L0 a1 5) {res : MM} : ∀ (n : Nat) (x3 : Int) (M : MM)  (h : sX10_giveThanks_b62 a0 a1 x2 n x3 M = some res), VV G xX10_giveThanks (ZM G xX10_giveThanks (none) L0 res) L0 M 0 0 62 [(0, .ref (gA G a0)), (1, .ref (gA G a1)), (2, .int (eI x2)), (3, .int (eI x3))] [] := by
  intro n
  induction n with
  | zero =>
    intro x3 M h
    rw [sX10_giveThanks_b62] at h
    cases h
  | succ n ih =>
    intro x3 M h
    rw [sX10_giveThanks_b62] at h
    refine r_iload_n (pc := 62) (i := 3) dX10_giveThanks_62 rfl 3 rfl ?_
    refine r_aload_n (pc := 63) (i := 1) dX10_giveThanks_63 rfl 1 rfl ?_
    refine r_getI (pc := 64) fg_10_22 rfl oa1 dX10_giveThanks_64 ?_
    refine r_icmp_ge (pc := 67) (tgt := 119) dX10_giveThanks_67 (by decide) rfl rfl (fun c_1 => ?_) (fun c_1 => ?_)
    · replace h := (if_pos c_1).symm.trans h
      cases h
      exact r_vret (pc := 119) rfl (Nat.le_refl 0) (Nat.le_refl 0) dX10_giveThanks_119
    · replace h := (if_neg c_1).symm.trans h
      refine r_iload_n (pc := 70) (i := 3) dX10_giveThanks_70 rfl 3 rfl ?_
      refine r_iload_n (pc := 71) (i := 2) dX10_giveThanks_71 rfl 2 rfl ?_
      refine r_icmp_eq (pc := 72) (tgt := 113) dX10_giveThanks_72 (by decide) rfl rfl (fun c_2 => ?_) (fun c_2 => ?_)
      · replace h := (if_pos c_2).symm.trans h
        refine r_sub (lv' := [(0, .ref (gA G a0)), (1, .ref (gA G a1)), (2, .int (eI x2)), (3, .int (eI x3))]) [0, 1, 2, 3] rfl ?_
        exact bX10_giveThanks_b113 a0 a1 x2 oa0 oa1 _ _ (fun v0 v1 v2 => ih v0 v1 v2) h
      · replace h := (if_neg c_2).symm.trans h
        refine r_aload_n (pc := 75) (i := 0) dX10_giveThanks_75 rfl 0 rfl ?_
        have o_3 := (wt_10_0 oa0).2
        refine r_getR (pc := 76) fg_10_9 rfl oa0 (wt_10_0 oa0).1 dX10_giveThanks_76 ?_
        refine r_iload_n (pc := 79) (i := 2) dX10_giveThanks_79 rfl 2 rfl ?_
        obtain ⟨c_4, h⟩ := og h
        refine r_iald (pc := 80) o_3 rfl c_4 rfl dX10_giveThanks_80 ?_
        refine r_if_le (pc := 81) (tgt := 113) dX10_giveThanks_81 (by decide) rfl (fun c_5 => ?_) (fun c_5 => ?_)
        · replace h := (if_pos c_5).symm.trans h
          refine r_sub (lv' := [(0, .ref (gA G a0)), (1, .ref (gA G a1)), (2, .int (eI x2)), (3, .int (eI x3))]) [0, 1, 2, 3] rfl ?_
          exact bX10_giveThanks_b113 a0 a1 x2 oa0 oa1 _ _ (fun v0 v1 v2 => ih v0 v1 v2) h
        · replace h := (if_neg c_5).symm.trans h
          refine r_aload_n (pc := 84) (i := 1) dX10_giveThanks_84 rfl 1 rfl ?_
          refine r_iload_n (pc := 85) (i := 3) dX10_giveThanks_85 rfl 3 rfl ?_
          refine r_iload_n (pc := 86) (i := 2) dX10_giveThanks_86 rfl 2 rfl ?_
          obtain ⟨q_6, hq_6, h⟩ := ob h
          refine r_cV (pc := 87) (Y := xX5_tieOf) (As := [.int (eI x3), .int (eI x2)]) (rest := []) (v := (some (.int (eI q_6)))) (st1 := [.int (eI q_6)]) ck_X10_giveThanks_98 (kX5_tieOf a1 x3 x2 M oa1 hq_6) oa1 rfl rfl rfl rfl (Nat.le_of_ble_eq_true rfl) ⟨rfl, rfl⟩ rfl dX10_giveThanks_87 ?_
          refine r_if_ne (pc := 90) (tgt := 113) dX10_giveThanks_90 (by decide) rfl (fun c_7 => ?_) (fun c_7 => ?_)
          · replace h := (if_neg c_7).symm.trans h
            refine r_sub (lv' := [(0, .ref (gA G a0)), (1, .ref (gA G a1)), (2, .int (eI x2)), (3, .int (eI x3))]) [0, 1, 2, 3] rfl ?_
            exact bX10_giveThanks_b113 a0 a1 x2 oa0 oa1 _ _ (fun v0 v1 v2 => ih v0 v1 v2) h
          · replace h := (if_pos c_7).symm.trans h
            refine r_aload_n (pc := 93) (i := 0) dX10_giveThanks_93 rfl 0 rfl ?_
            have o_8 := (wt_10_0 oa0).2
            refine r_getR (pc := 94) fg_10_9 rfl oa0 (wt_10_0 oa0).1 dX10_giveThanks_94 ?_
            refine r_iload_n (pc := 97) (i := 2) dX10_giveThanks_97 rfl 2 rfl ?_
            refine r_dup2 (pc := 98) dX10_giveThanks_98 rfl rfl ?_
            obtain ⟨c_9, h⟩ := og h
            refine r_iald (pc := 99) o_8 rfl c_9 rfl dX10_giveThanks_99 ?_
            refine r_iconst (pc := 100) (v := 1) dX10_giveThanks_100 (by decide +kernel) ?_
            refine r_isub (pc := 101) dX10_giveThanks_101 ?_
            obtain ⟨c_10, h⟩ := og h
            obtain ⟨M_11, hM_11, h⟩ := ob h
            refine r_iast (pc := 102) o_8 rfl c_10 rfl hM_11 dX10_giveThanks_102 ?_
            refine r_aload_n (pc := 103) (i := 0) dX10_giveThanks_103 rfl 0 rfl ?_
            have o_12 := (wt_10_0 oa0).2
            refine r_getR (pc := 104) fg_10_9 rfl oa0 (wt_10_0 oa0).1 dX10_giveThanks_104 ?_
            refine r_iload_n (pc := 107) (i := 3) dX10_giveThanks_107 rfl 3 rfl ?_
            refine r_dup2 (pc := 108) dX10_giveThanks_108 rfl rfl ?_
            obtain ⟨c_13, h⟩ := og h
            refine r_iald (pc := 109) o_12 rfl c_13 rfl dX10_giveThanks_109 ?_
            refine r_iconst (pc := 110) (v := 1) dX10_giveThanks_110 (by decide +kernel) ?_
            refine r_iadd (pc := 111) dX10_giveThanks_111 ?_
            obtain ⟨c_14, h⟩ := og h
            obtain ⟨M_15, hM_15, h⟩ := ob h
            refine r_iast (pc := 112) o_12 rfl c_14 rfl hM_15 dX10_giveThanks_112 ?_
            refine r_sub (lv' := [(0, .ref (gA G a0)), (1, .ref (gA G a1)), (2, .int (eI x2)), (3, .int (eI x3))]) [0, 1, 2, 3] rfl ?_
            exact bX10_giveThanks_b113 a0 a1 x2 oa0 oa1 _ _ (fun v0 v1 v2 => ih v0 v1 v2) h
set_option maxHeartbeats 4000000 in
set_option maxRecDepth 100000 in
theorem bX10_giveThanks_b54 {G : GG} (a0 : Nat) (a1 : Nat) (x2 : Int) (oa0 : OB L0 a0 10) (oa1 : OB L0 a1 5) {K2 : Int → MM → Option MM} (x3 : Int) (M : MM) {res : MM} (hK2 : ∀ (x3 : Int) (M : MM), K2 x3 M = some res → VV G xX10_giveThanks (ZM G xX10_giveThanks (none) L0 res) L0 M 0 0 2 [(0, .ref (gA G a0)), (1, .ref (gA G a1)), (2, .int (eI x2)), (3, .int (eI x3))] [])  (h : sX10_giveThanks_b54 a0 a1 x2 K2 x3 M = some res) : VV G xX10_giveThanks (ZM G xX10_giveThanks (none) L0 res) L0 M 0 0 54 [(0, .ref (gA G a0)), (1, .ref (gA G a1)), (2, .int (eI x2)), (3, .int (eI x3))] [] := by
  unfold sX10_giveThanks_b54 at h
  obtain ⟨v_1, hv_1, h⟩ := ob h
  refine r_iinc (pc := 54) (y := v_1) (lv' := [(3, .int (eI v_1)), (0, .ref (gA G a0)), (1, .ref (gA G a1)), (2, .int (eI x2))]) dX10_giveThanks_54 3 rfl (Option.some.inj hv_1) (Nat.le_of_ble_eq_true rfl) rfl ?_
  refine r_goto (pc := 57) (tgt := 2) dX10_giveThanks_57 (by decide) ?_
  refine r_sub (lv' := [(0, .ref (gA G a0)), (1, .ref (gA G a1)), (2, .int (eI x2)), (3, .int (eI v_1))]) [1, 2, 3, 0] rfl ?_
  exact hK2 _ _ h
set_option maxHeartbeats 4000000 in
set_option maxRecDepth 100000 in
theorem bX10_giveThanks_b2 {G : GG} (a0 : Nat) (a1 : Nat) (x2 : Int) (oa0 : OB L0 a0 10) (oa1 : OB L0 a1 5) {res : MM} : ∀ (n : Nat) (x3 : Int) (M : MM)  (h : sX10_giveThanks_b2 a0 a1 x2 n x3 M = some res), VV G xX10_giveThanks (ZM G xX10_giveThanks (none) L0 res) L0 M 0 0 2 [(0, .ref (gA G a0)), (1, .ref (gA G a1)), (2, .int (eI x2)), (3, .int (eI x3))] [] := by
  intro n
  induction n with
  | zero =>
    intro x3 M h
    rw [sX10_giveThanks_b2] at h
    cases h
  | succ n ih =>
    intro x3 M h
    rw [sX10_giveThanks_b2] at h
    refine r_iload_n (pc := 2) (i := 3) dX10_giveThanks_2 rfl 3 rfl ?_
    refine r_aload_n (pc := 3) (i := 1) dX10_giveThanks_3 rfl 1 rfl ?_
    refine r_getI (pc := 4) fg_10_22 rfl oa1 dX10_giveThanks_4 ?_
    refine r_icmp_ge (pc := 7) (tgt := 60) dX10_giveThanks_7 (by decide) rfl rfl (fun c_1 => ?_) (fun c_1 => ?_)
    · replace h := (if_pos c_1).symm.trans h
      refine r_iconst (pc := 60) (v := 0) dX10_giveThanks_60 (by decide +kernel) ?_
      refine r_istore_n (pc := 61) (i := 3) (lv' := [(3, .int (eI 0)), (0, .ref (gA G a0)), (1, .ref (gA G a1)), (2, .int (eI x2))]) dX10_giveThanks_61 rfl (Nat.le_of_ble_eq_true rfl) rfl ?_
      refine r_sub (lv' := [(0, .ref (gA G a0)), (1, .ref (gA G a1)), (2, .int (eI x2)), (3, .int (eI 0))]) [1, 2, 3, 0] rfl ?_
      exact bX10_giveThanks_b62 a0 a1 x2 oa0 oa1 _ _ _ h
    · replace h := (if_neg c_1).symm.trans h
      refine r_iload_n (pc := 10) (i := 3) dX10_giveThanks_10 rfl 3 rfl ?_
      refine r_iload_n (pc := 11) (i := 2) dX10_giveThanks_11 rfl 2 rfl ?_
      refine r_icmp_eq (pc := 12) (tgt := 54) dX10_giveThanks_12 (by decide) rfl rfl (fun c_2 => ?_) (fun c_2 => ?_)
      · replace h := (if_pos c_2).symm.trans h
        refine r_sub (lv' := [(0, .ref (gA G a0)), (1, .ref (gA G a1)), (2, .int (eI x2)), (3, .int (eI x3))]) [0, 1, 2, 3] rfl ?_
        exact bX10_giveThanks_b54 a0 a1 x2 oa0 oa1 _ _ (fun v0 v1 v2 => ih v0 v1 v2) h
      · replace h := (if_neg c_2).symm.trans h
        refine r_aload_n (pc := 15) (i := 0) dX10_giveThanks_15 rfl 0 rfl ?_
        have o_3 := (wt_10_0 oa0).2
        refine r_getR (pc := 16) fg_10_9 rfl oa0 (wt_10_0 oa0).1 dX10_giveThanks_16 ?_
        refine r_iload_n (pc := 19) (i := 3) dX10_giveThanks_19 rfl 3 rfl ?_
        obtain ⟨c_4, h⟩ := og h
        refine r_iald (pc := 20) o_3 rfl c_4 rfl dX10_giveThanks_20 ?_
        refine r_if_le (pc := 21) (tgt := 54) dX10_giveThanks_21 (by decide) rfl (fun c_5 => ?_) (fun c_5 => ?_)
        · replace h := (if_pos c_5).symm.trans h
          refine r_sub (lv' := [(0, .ref (gA G a0)), (1, .ref (gA G a1)), (2, .int (eI x2)), (3, .int (eI x3))]) [0, 1, 2, 3] rfl ?_
          exact bX10_giveThanks_b54 a0 a1 x2 oa0 oa1 _ _ (fun v0 v1 v2 => ih v0 v1 v2) h
        · replace h := (if_neg c_5).symm.trans h
          refine r_aload_n (pc := 24) (i := 1) dX10_giveThanks_24 rfl 1 rfl ?_
          refine r_iload_n (pc := 25) (i := 3) dX10_giveThanks_25 rfl 3 rfl ?_
          refine r_iload_n (pc := 26) (i := 2) dX10_giveThanks_26 rfl 2 rfl ?_
          obtain ⟨q_6, hq_6, h⟩ := ob h
          refine r_cV (pc := 27) (Y := xX5_tieOf) (As := [.int (eI x3), .int (eI x2)]) (rest := []) (v := (some (.int (eI q_6)))) (st1 := [.int (eI q_6)]) ck_X10_giveThanks_98 (kX5_tieOf a1 x3 x2 M oa1 hq_6) oa1 rfl rfl rfl rfl (Nat.le_of_ble_eq_true rfl) ⟨rfl, rfl⟩ rfl dX10_giveThanks_27 ?_
          refine r_iconst (pc := 30) (v := 2) dX10_giveThanks_30 (by decide +kernel) ?_
          refine r_icmp_ne (pc := 31) (tgt := 54) dX10_giveThanks_31 (by decide) rfl wl_2 (fun c_7 => ?_) (fun c_7 => ?_)
          · replace h := (if_neg c_7).symm.trans h
            refine r_sub (lv' := [(0, .ref (gA G a0)), (1, .ref (gA G a1)), (2, .int (eI x2)), (3, .int (eI x3))]) [0, 1, 2, 3] rfl ?_
            exact bX10_giveThanks_b54 a0 a1 x2 oa0 oa1 _ _ (fun v0 v1 v2 => ih v0 v1 v2) h
          · replace h := (if_pos c_7).symm.trans h
            refine r_aload_n (pc := 34) (i := 0) dX10_giveThanks_34 rfl 0 rfl ?_
            have o_8 := (wt_10_0 oa0).2
            refine r_getR (pc := 35) fg_10_9 rfl oa0 (wt_10_0 oa0).1 dX10_giveThanks_35 ?_
            refine r_iload_n (pc := 38) (i := 3) dX10_giveThanks_38 rfl 3 rfl ?_
            refine r_dup2 (pc := 39) dX10_giveThanks_39 rfl rfl ?_
            obtain ⟨c_9, h⟩ := og h
            refine r_iald (pc := 40) o_8 rfl c_9 rfl dX10_giveThanks_40 ?_
            refine r_iconst (pc := 41) (v := 1) dX10_giveThanks_41 (by decide +kernel) ?_
            refine r_isub (pc := 42) dX10_giveThanks_42 ?_
            obtain ⟨c_10, h⟩ := og h
            obtain ⟨M_11, hM_11, h⟩ := ob h
            refine r_iast (pc := 43) o_8 rfl c_10 rfl hM_11 dX10_giveThanks_43 ?_
            refine r_aload_n (pc := 44) (i := 0) dX10_giveThanks_44 rfl 0 rfl ?_
            have o_12 := (wt_10_0 oa0).2
            refine r_getR (pc := 45) fg_10_9 rfl oa0 (wt_10_0 oa0).1 dX10_giveThanks_45 ?_
            refine r_iload_n (pc := 48) (i := 2) dX10_giveThanks_48 rfl 2 rfl ?_
            refine r_dup2 (pc := 49) dX10_giveThanks_49 rfl rfl ?_
            obtain ⟨c_13, h⟩ := og h
            refine r_iald (pc := 50) o_12 rfl c_13 rfl dX10_giveThanks_50 ?_
            refine r_iconst (pc := 51) (v := 1) dX10_giveThanks_51 (by decide +kernel) ?_
            refine r_iadd (pc := 52) dX10_giveThanks_52 ?_
            obtain ⟨c_14, h⟩ := og h
            obtain ⟨M_15, hM_15, h⟩ := ob h
            refine r_iast (pc := 53) o_12 rfl c_14 rfl hM_15 dX10_giveThanks_53 ?_
            refine r_sub (lv' := [(0, .ref (gA G a0)), (1, .ref (gA G a1)), (2, .int (eI x2)), (3, .int (eI x3))]) [0, 1, 2, 3] rfl ?_
            exact bX10_giveThanks_b54 a0 a1 x2 oa0 oa1 _ _ (fun v0 v1 v2 => ih v0 v1 v2) h
set_option maxHeartbeats 4000000 in
set_option maxRecDepth 100000 in
theorem bX10_giveThanks_b0 {G : GG} (a0 : Nat) (a1 : Nat) (x2 : Int) (oa0 : OB L0 a0 10) (oa1 : OB L0 a1 5)  (M : MM) {res : MM}  (h : sX10_giveThanks_b0 a0 a1 x2 M = some res) : VV G xX10_giveThanks (ZM G xX10_giveThanks (none) L0 res) L0 M 0 0 0 [(0, .ref (gA G a0)), (1, .ref (gA G a1)), (2, .int (eI x2))] [] := by
  unfold sX10_giveThanks_b0 at h
  refine r_iconst (pc := 0) (v := 0) dX10_giveThanks_0 (by decide +kernel) ?_
  refine r_istore_n (pc := 1) (i := 3) (lv' := [(3, .int (eI 0)), (0, .ref (gA G a0)), (1, .ref (gA G a1)), (2, .int (eI x2))]) dX10_giveThanks_1 rfl (Nat.le_of_ble_eq_true rfl) rfl ?_
  refine r_sub (lv' := [(0, .ref (gA G a0)), (1, .ref (gA G a1)), (2, .int (eI x2)), (3, .int (eI 0))]) [1, 2, 3, 0] rfl ?_
  exact bX10_giveThanks_b2 a0 a1 x2 oa0 oa1 _ _ _ h
theorem kX10_giveThanks {G : GG} (a0 : Nat) (a1 : Nat) (x2 : Int) (M : MM) {res : MM} (oa0 : OB L0 a0 10) (oa1 : OB L0 a1 5) (h : sX10_giveThanks a0 a1 x2 M = some res) : CO G xX10_giveThanks [.ref (gA G a0), .ref (gA G a1), .int (eI x2)] L0 M (none) L0 res := CO_of (by decide +kernel) (Nat.le_of_ble_eq_true rfl) (bX10_giveThanks_b0 a0 a1 x2 oa0 oa1 M h)
abbrev xX10_fillBags : XX := (yX10_fillBags, cX10_fillBags, 6, none, 4, 98, 0, 0)
theorem ck_X10_fillBags_54 : CKV xX10_fillBags 54 xX10_emptyBags 0 := ⟨⟨tb_i 1268 (by decide +kernel) (by decide +kernel), tb_i 150 (by decide +kernel) (by decide +kernel), tb_i 1271 (by decide +kernel) (by decide +kernel), ⟨by decide +kernel, by decide +kernel, by decide +kernel⟩, by decide, by decide⟩, tb_i 1269 (by decide +kernel) (by decide +kernel), tb_i 1270 (by decide +kernel) (by decide +kernel)⟩
theorem ck_X10_fillBags_57 : CKV xX10_fillBags 57 xX10_queueUp 2 := ⟨⟨tb_i 1272 (by decide +kernel) (by decide +kernel), tb_i 150 (by decide +kernel) (by decide +kernel), tb_i 1275 (by decide +kernel) (by decide +kernel), ⟨by decide +kernel, by decide +kernel, by decide +kernel⟩, by decide, by decide⟩, tb_i 1274 (by decide +kernel) (by decide +kernel), tb_i 40 (by decide +kernel) (by decide +kernel)⟩
theorem ck_X10_fillBags_61 : CKV xX10_fillBags 61 xX3_sumOfSeconds 0 := ⟨⟨tb_i 1276 (by decide +kernel) (by decide +kernel), tb_i 142 (by decide +kernel) (by decide +kernel), tb_i 1255 (by decide +kernel) (by decide +kernel), ⟨by decide +kernel, by decide +kernel, by decide +kernel⟩, by decide, by decide⟩, tb_i 1253 (by decide +kernel) (by decide +kernel), tb_i 1254 (by decide +kernel) (by decide +kernel)⟩
theorem ck_X10_fillBags_67 : CKV xX10_fillBags 67 xX10_dealOut 2 := ⟨⟨tb_i 1277 (by decide +kernel) (by decide +kernel), tb_i 150 (by decide +kernel) (by decide +kernel), tb_i 1280 (by decide +kernel) (by decide +kernel), ⟨by decide +kernel, by decide +kernel, by decide +kernel⟩, by decide, by decide⟩, tb_i 1279 (by decide +kernel) (by decide +kernel), tb_i 41 (by decide +kernel) (by decide +kernel)⟩
theorem ck_X10_fillBags_77 : CKV xX10_fillBags 77 xX10_whoPicks 3 := ⟨⟨tb_i 1285 (by decide +kernel) (by decide +kernel), tb_i 150 (by decide +kernel) (by decide +kernel), tb_i 1189 (by decide +kernel) (by decide +kernel), ⟨by decide +kernel, by decide +kernel, by decide +kernel⟩, by decide, by decide⟩, tb_i 1187 (by decide +kernel) (by decide +kernel), tb_i 1188 (by decide +kernel) (by decide +kernel)⟩
theorem ck_X10_fillBags_84 : CKV xX10_fillBags 84 xX10_addToBag 2 := ⟨⟨tb_i 1281 (by decide +kernel) (by decide +kernel), tb_i 150 (by decide +kernel) (by decide +kernel), tb_i 1284 (by decide +kernel) (by decide +kernel), ⟨by decide +kernel, by decide +kernel, by decide +kernel⟩, by decide, by decide⟩, tb_i 1282 (by decide +kernel) (by decide +kernel), tb_i 1283 (by decide +kernel) (by decide +kernel)⟩
theorem ck_X10_fillBags_88 : CKV xX10_fillBags 88 xX5_has 1 := ⟨⟨tb_i 1286 (by decide +kernel) (by decide +kernel), tb_i 141 (by decide +kernel) (by decide +kernel), tb_i 881 (by decide +kernel) (by decide +kernel), ⟨by decide +kernel, by decide +kernel, by decide +kernel⟩, by decide, by decide⟩, tb_i 879 (by decide +kernel) (by decide +kernel), tb_i 880 (by decide +kernel) (by decide +kernel)⟩
theorem ck_X10_fillBags_92 : CKV xX10_fillBags 92 xX10_giveThanks 2 := ⟨⟨tb_i 1287 (by decide +kernel) (by decide +kernel), tb_i 150 (by decide +kernel) (by decide +kernel), tb_i 1290 (by decide +kernel) (by decide +kernel), ⟨by decide +kernel, by decide +kernel, by decide +kernel⟩, by decide, by decide⟩, tb_i 1289 (by decide +kernel) (by decide +kernel), tb_i 42 (by decide +kernel) (by decide +kernel)⟩
def sX10_fillBags_b45 (a0 : Nat) (a1 : Nat) (a2 : Nat) (x3 : Int) (x4 : Int)  : Nat → Int → MM → Option MM
  | 0, _, _ => none
  | n + 1, x5, M => (if wI (M a2 4) ≤ wI x5 then (if wI x4 = 2 then (if wI (sX5_has a1 x3 M) = 0 then (some (M)) else ((sX10_giveThanks a0 a1 x3 M).bind fun q_4 => (some (q_4)))) else (some (M))) else (if 0 ≤ wI x5 ∧ wI x5 < (ln (gR a2 2)) then ((sX10_whoPicks a0 a1 x3 (M (gR a2 2) (wI x5).toNat) M).bind fun q_7 => (if 0 ≤ wI x5 ∧ wI x5 < (ln (gR a2 3)) then ((sX10_addToBag a0 q_7 (M (gR a2 3) (wI x5).toNat) M).bind fun q_10 => ((some (x5 + 1)).bind fun v_11 => (sX10_fillBags_b45 a0 a1 a2 x3 x4 n v_11 q_10))) else none)) else none))
def sX10_fillBags_b29 (a0 : Nat) (a1 : Nat) (a2 : Nat) (x3 : Int) (x4 : Int)  (a90 : Nat) (a91 : Nat) (x92 : Int) (M : MM) : Option MM := ((sX10_queueUp a90 a91 x92 M).bind fun q_1 => ((sX3_sumOfSeconds a2 q_1).bind fun q_2 => ((sX10_dealOut a0 a1 q_2 q_1).bind fun q_3 => (some (q_3)))))
def sX10_fillBags_b16 (a0 : Nat) (a1 : Nat) (a2 : Nat) (x3 : Int) (x4 : Int)   (M : MM) : Option MM := (if wI x4 = 3 then (sX10_fillBags_b29 a0 a1 a2 x3 x4 a0 a1 1 M) else (sX10_fillBags_b29 a0 a1 a2 x3 x4 a0 a1 0 M))
def sX10_fillBags_b0 (a0 : Nat) (a1 : Nat) (a2 : Nat) (x3 : Int) (x4 : Int)   (M : MM) : Option MM := ((sX10_emptyBags a0 M).bind fun q_1 => (if wI x4 = 1 then (sX10_fillBags_b16 a0 a1 a2 x3 x4 q_1) else (if wI x4 = 3 then (sX10_fillBags_b16 a0 a1 a2 x3 x4 q_1) else (sX10_fillBags_b45 a0 a1 a2 x3 x4 FU 0 q_1))))
def sX10_fillBags (a0 : Nat) (a1 : Nat) (a2 : Nat) (x3 : Int) (x4 : Int) (M : MM) : Option MM := sX10_fillBags_b0 a0 a1 a2 x3 x4 M
set_option maxHeartbeats 4000000 in
set_option maxRecDepth 100000 in
theorem bX10_fillBags_b45 {G : GG} (a0 : Nat) (a1 : Nat) (a2 : Nat) (x3 : Int) (x4 : Int) (oa0 : OB L0 a0 10) (oa1 : OB L0 a1 5) (oa2 : OB L0 a2 3) {res : MM} : ∀ (n : Nat) (x5 : Int) (M : MM)  (h : sX10_fillBags_b45 a0 a1 a2 x3 x4 n x5 M = some res), VV G xX10_fillBags (ZM G xX10_fillBags (none) L0 res) L0 M 0 0 45 [(0, .ref (gA G a0)), (1, .ref (gA G a1)), (2, .ref (gA G a2)), (3, .int (eI x3)), (4, .int (eI x4)), (5, .int (eI x5))] [] := by
  intro n
  induction n with
  | zero =>
    intro x5 M h
    rw [sX10_fillBags_b45] at h
    cases h
  | succ n ih =>
    intro x5 M h
    rw [sX10_fillBags_b45] at h
    refine r_iload (pc := 45) dX10_fillBags_45 5 rfl ?_
    refine r_aload_n (pc := 47) (i := 2) dX10_fillBags_47 rfl 2 rfl ?_
    refine r_getI (pc := 48) fg_10_71 rfl oa2 dX10_fillBags_48 ?_
    refine r_icmp_ge (pc := 51) (tgt := 84) dX10_fillBags_51 (by decide) rfl rfl (fun c_1 => ?_) (fun c_1 => ?_)
    · replace h := (if_pos c_1).symm.trans h
      refine r_iload (pc := 84) dX10_fillBags_84 4 rfl ?_
      refine r_iconst (pc := 86) (v := 2) dX10_fillBags_86 (by decide +kernel) ?_
      refine r_icmp_ne (pc := 87) (tgt := 104) dX10_fillBags_87 (by decide) rfl wl_2 (fun c_2 => ?_) (fun c_2 => ?_)
      · replace h := (if_neg c_2).symm.trans h
        cases h
        exact r_vret (pc := 104) rfl (Nat.le_refl 0) (Nat.le_refl 0) dX10_fillBags_104
      · replace h := (if_pos c_2).symm.trans h
        refine r_aload_n (pc := 90) (i := 1) dX10_fillBags_90 rfl 1 rfl ?_
        refine r_iload_n (pc := 91) (i := 3) dX10_fillBags_91 rfl 3 rfl ?_
        refine r_cV (pc := 92) (Y := xX5_has) (As := [.int (eI x3)]) (rest := []) (v := (some (.int (eI (sX5_has a1 x3 M))))) (st1 := [.int (eI (sX5_has a1 x3 M))]) ck_X10_fillBags_88 (kX5_has a1 x3 M oa1) oa1 rfl rfl rfl rfl (Nat.le_of_ble_eq_true rfl) ⟨rfl, rfl⟩ rfl dX10_fillBags_92 ?_
        refine r_if_eq (pc := 95) (tgt := 104) dX10_fillBags_95 (by decide) rfl (fun c_3 => ?_) (fun c_3 => ?_)
        · replace h := (if_pos c_3).symm.trans h
          cases h
          exact r_vret (pc := 104) rfl (Nat.le_refl 0) (Nat.le_refl 0) dX10_fillBags_104
        · replace h := (if_neg c_3).symm.trans h
          refine r_aload_n (pc := 98) (i := 0) dX10_fillBags_98 rfl 0 rfl ?_
          refine r_aload_n (pc := 99) (i := 1) dX10_fillBags_99 rfl 1 rfl ?_
          refine r_iload_n (pc := 100) (i := 3) dX10_fillBags_100 rfl 3 rfl ?_
          obtain ⟨q_4, hq_4, h⟩ := ob h
          refine r_cV (pc := 101) (Y := xX10_giveThanks) (As := [.ref (gA G a1), .int (eI x3)]) (rest := []) (v := none) (st1 := []) ck_X10_fillBags_92 (kX10_giveThanks a0 a1 x3 M oa0 oa1 hq_4) oa0 rfl rfl rfl rfl (Nat.le_of_ble_eq_true rfl) ⟨rfl, rfl⟩ rfl dX10_fillBags_101 ?_
          cases h
          exact r_vret (pc := 104) rfl (Nat.le_refl 0) (Nat.le_refl 0) dX10_fillBags_104
    · replace h := (if_neg c_1).symm.trans h
      refine r_aload_n (pc := 54) (i := 0) dX10_fillBags_54 rfl 0 rfl ?_
      refine r_aload_n (pc := 55) (i := 0) dX10_fillBags_55 rfl 0 rfl ?_
      refine r_aload_n (pc := 56) (i := 1) dX10_fillBags_56 rfl 1 rfl ?_
      refine r_iload_n (pc := 57) (i := 3) dX10_fillBags_57 rfl 3 rfl ?_
      refine r_aload_n (pc := 58) (i := 2) dX10_fillBags_58 rfl 2 rfl ?_
      have o_5 := (wt_3_2 oa2).2
      refine r_getR (pc := 59) fg_10_74 rfl oa2 (wt_3_2 oa2).1 dX10_fillBags_59 ?_
      refine r_iload (pc := 62) dX10_fillBags_62 5 rfl ?_
      obtain ⟨c_6, h⟩ := og h
      refine r_iald (pc := 64) o_5 rfl c_6 rfl dX10_fillBags_64 ?_
      obtain ⟨q_7, hq_7, h⟩ := ob h
      refine r_cV (pc := 65) (Y := xX10_whoPicks) (As := [.ref (gA G a1), .int (eI x3), .int (eI (M (gR a2 2) (wI x5).toNat))]) (rest := [.ref (gA G a0)]) (v := (some (.int (eI q_7)))) (st1 := [.int (eI q_7), .ref (gA G a0)]) ck_X10_fillBags_77 (kX10_whoPicks a0 a1 x3 (M (gR a2 2) (wI x5).toNat) M oa0 oa1 hq_7) oa0 rfl rfl rfl rfl (Nat.le_of_ble_eq_true rfl) ⟨rfl, rfl⟩ rfl dX10_fillBags_65 ?_
      refine r_aload_n (pc := 68) (i := 2) dX10_fillBags_68 rfl 2 rfl ?_
      have o_8 := (wt_3_3 oa2).2
      refine r_getR (pc := 69) fg_10_81 rfl oa2 (wt_3_3 oa2).1 dX10_fillBags_69 ?_
      refine r_iload (pc := 72) dX10_fillBags_72 5 rfl ?_
      obtain ⟨c_9, h⟩ := og h
      refine r_iald (pc := 74) o_8 rfl c_9 rfl dX10_fillBags_74 ?_
      obtain ⟨q_10, hq_10, h⟩ := ob h
      refine r_cV (pc := 75) (Y := xX10_addToBag) (As := [.int (eI q_7), .int (eI (M (gR a2 3) (wI x5).toNat))]) (rest := []) (v := none) (st1 := []) ck_X10_fillBags_84 (kX10_addToBag a0 q_7 (M (gR a2 3) (wI x5).toNat) M oa0 hq_10) oa0 rfl rfl rfl rfl (Nat.le_of_ble_eq_true rfl) ⟨rfl, rfl⟩ rfl dX10_fillBags_75 ?_
      obtain ⟨v_11, hv_11, h⟩ := ob h
      refine r_iinc (pc := 78) (y := v_11) (lv' := [(5, .int (eI v_11)), (0, .ref (gA G a0)), (1, .ref (gA G a1)), (2, .ref (gA G a2)), (3, .int (eI x3)), (4, .int (eI x4))]) dX10_fillBags_78 5 rfl (Option.some.inj hv_11) (Nat.le_of_ble_eq_true rfl) rfl ?_
      refine r_goto (pc := 81) (tgt := 45) dX10_fillBags_81 (by decide) ?_
      refine r_sub (lv' := [(0, .ref (gA G a0)), (1, .ref (gA G a1)), (2, .ref (gA G a2)), (3, .int (eI x3)), (4, .int (eI x4)), (5, .int (eI v_11))]) [1, 2, 3, 4, 5, 0] rfl ?_
      exact ih _ _ h
set_option maxHeartbeats 4000000 in
set_option maxRecDepth 100000 in
theorem bX10_fillBags_b29 {G : GG} (a0 : Nat) (a1 : Nat) (a2 : Nat) (x3 : Int) (x4 : Int) (oa0 : OB L0 a0 10) (oa1 : OB L0 a1 5) (oa2 : OB L0 a2 3) (a90 : Nat) (a91 : Nat) (x92 : Int) (M : MM) {res : MM} (oa90 : OB L0 a90 10) (oa91 : OB L0 a91 5) (h : sX10_fillBags_b29 a0 a1 a2 x3 x4 a90 a91 x92 M = some res) : VV G xX10_fillBags (ZM G xX10_fillBags (none) L0 res) L0 M 0 0 29 [(0, .ref (gA G a0)), (1, .ref (gA G a1)), (2, .ref (gA G a2))] [.int (eI x92), .ref (gA G a91), .ref (gA G a90)] := by
  unfold sX10_fillBags_b29 at h
  obtain ⟨q_1, hq_1, h⟩ := ob h
  refine r_cV (pc := 29) (Y := xX10_queueUp) (As := [.ref (gA G a91), .int (eI x92)]) (rest := []) (v := none) (st1 := []) ck_X10_fillBags_57 (kX10_queueUp a90 a91 x92 M oa90 oa91 hq_1) oa90 rfl rfl rfl rfl (Nat.le_of_ble_eq_true rfl) ⟨rfl, rfl⟩ rfl dX10_fillBags_29 ?_
  refine r_aload_n (pc := 32) (i := 0) dX10_fillBags_32 rfl 0 rfl ?_
  refine r_aload_n (pc := 33) (i := 1) dX10_fillBags_33 rfl 1 rfl ?_
  refine r_aload_n (pc := 34) (i := 2) dX10_fillBags_34 rfl 2 rfl ?_
  obtain ⟨q_2, hq_2, h⟩ := ob h
  refine r_cV (pc := 35) (Y := xX3_sumOfSeconds) (As := []) (rest := [.ref (gA G a1), .ref (gA G a0)]) (v := (some (.int (eI q_2)))) (st1 := [.int (eI q_2), .ref (gA G a1), .ref (gA G a0)]) ck_X10_fillBags_61 (kX3_sumOfSeconds a2 q_1 oa2 hq_2) oa2 rfl rfl rfl rfl (Nat.le_of_ble_eq_true rfl) ⟨rfl, rfl⟩ rfl dX10_fillBags_35 ?_
  obtain ⟨q_3, hq_3, h⟩ := ob h
  refine r_cV (pc := 38) (Y := xX10_dealOut) (As := [.ref (gA G a1), .int (eI q_2)]) (rest := []) (v := none) (st1 := []) ck_X10_fillBags_67 (kX10_dealOut a0 a1 q_2 q_1 oa0 oa1 hq_3) oa0 rfl rfl rfl rfl (Nat.le_of_ble_eq_true rfl) ⟨rfl, rfl⟩ rfl dX10_fillBags_38 ?_
  cases h
  exact r_vret (pc := 41) rfl (Nat.le_refl 0) (Nat.le_refl 0) dX10_fillBags_41
set_option maxHeartbeats 4000000 in
set_option maxRecDepth 100000 in
theorem bX10_fillBags_b16 {G : GG} (a0 : Nat) (a1 : Nat) (a2 : Nat) (x3 : Int) (x4 : Int) (oa0 : OB L0 a0 10) (oa1 : OB L0 a1 5) (oa2 : OB L0 a2 3)  (M : MM) {res : MM}  (h : sX10_fillBags_b16 a0 a1 a2 x3 x4 M = some res) : VV G xX10_fillBags (ZM G xX10_fillBags (none) L0 res) L0 M 0 0 16 [(0, .ref (gA G a0)), (1, .ref (gA G a1)), (2, .ref (gA G a2)), (4, .int (eI x4))] [] := by
  unfold sX10_fillBags_b16 at h
  refine r_aload_n (pc := 16) (i := 0) dX10_fillBags_16 rfl 0 rfl ?_
  refine r_aload_n (pc := 17) (i := 1) dX10_fillBags_17 rfl 1 rfl ?_
  refine r_iload (pc := 18) dX10_fillBags_18 3 rfl ?_
  refine r_iconst (pc := 20) (v := 3) dX10_fillBags_20 (by decide +kernel) ?_
  refine r_icmp_ne (pc := 21) (tgt := 28) dX10_fillBags_21 (by decide) rfl wl_3 (fun c_1 => ?_) (fun c_1 => ?_)
  · replace h := (if_neg c_1).symm.trans h
    refine r_iconst (pc := 28) (v := 0) dX10_fillBags_28 (by decide +kernel) ?_
    refine r_sub (lv' := [(0, .ref (gA G a0)), (1, .ref (gA G a1)), (2, .ref (gA G a2))]) [0, 1, 2] rfl ?_
    exact bX10_fillBags_b29 a0 a1 a2 x3 x4 oa0 oa1 oa2 _ _ _ _ oa0 oa1 h
  · replace h := (if_pos c_1).symm.trans h
    refine r_iconst (pc := 24) (v := 1) dX10_fillBags_24 (by decide +kernel) ?_
    refine r_goto (pc := 25) (tgt := 29) dX10_fillBags_25 (by decide) ?_
    refine r_sub (lv' := [(0, .ref (gA G a0)), (1, .ref (gA G a1)), (2, .ref (gA G a2))]) [0, 1, 2] rfl ?_
    exact bX10_fillBags_b29 a0 a1 a2 x3 x4 oa0 oa1 oa2 _ _ _ _ oa0 oa1 h
set_option maxHeartbeats 4000000 in
set_option maxRecDepth 100000 in
theorem bX10_fillBags_b0 {G : GG} (a0 : Nat) (a1 : Nat) (a2 : Nat) (x3 : Int) (x4 : Int) (oa0 : OB L0 a0 10) (oa1 : OB L0 a1 5) (oa2 : OB L0 a2 3)  (M : MM) {res : MM}  (h : sX10_fillBags_b0 a0 a1 a2 x3 x4 M = some res) : VV G xX10_fillBags (ZM G xX10_fillBags (none) L0 res) L0 M 0 0 0 [(0, .ref (gA G a0)), (1, .ref (gA G a1)), (2, .ref (gA G a2)), (3, .int (eI x3)), (4, .int (eI x4))] [] := by
  unfold sX10_fillBags_b0 at h
  refine r_aload_n (pc := 0) (i := 0) dX10_fillBags_0 rfl 0 rfl ?_
  obtain ⟨q_1, hq_1, h⟩ := ob h
  refine r_cV (pc := 1) (Y := xX10_emptyBags) (As := []) (rest := []) (v := none) (st1 := []) ck_X10_fillBags_54 (kX10_emptyBags a0 M oa0 hq_1) oa0 rfl rfl rfl rfl (Nat.le_of_ble_eq_true rfl) ⟨rfl, rfl⟩ rfl dX10_fillBags_1 ?_
  refine r_iload (pc := 4) dX10_fillBags_4 4 rfl ?_
  refine r_iconst (pc := 6) (v := 1) dX10_fillBags_6 (by decide +kernel) ?_
  refine r_icmp_eq (pc := 7) (tgt := 16) dX10_fillBags_7 (by decide) rfl wl_1 (fun c_2 => ?_) (fun c_2 => ?_)
  · replace h := (if_pos c_2).symm.trans h
    refine r_sub (lv' := [(0, .ref (gA G a0)), (1, .ref (gA G a1)), (2, .ref (gA G a2)), (4, .int (eI x4))]) [0, 1, 2, 4] rfl ?_
    exact bX10_fillBags_b16 a0 a1 a2 x3 x4 oa0 oa1 oa2 _ h
  · replace h := (if_neg c_2).symm.trans h
    refine r_iload (pc := 10) dX10_fillBags_10 4 rfl ?_
    refine r_iconst (pc := 12) (v := 3) dX10_fillBags_12 (by decide +kernel) ?_
    refine r_icmp_ne (pc := 13) (tgt := 42) dX10_fillBags_13 (by decide) rfl wl_3 (fun c_3 => ?_) (fun c_3 => ?_)
    · replace h := (if_neg c_3).symm.trans h
      refine r_iconst (pc := 42) (v := 0) dX10_fillBags_42 (by decide +kernel) ?_
      refine r_istore (pc := 43) (lv' := [(5, .int (eI 0)), (0, .ref (gA G a0)), (1, .ref (gA G a1)), (2, .ref (gA G a2)), (3, .int (eI x3)), (4, .int (eI x4))]) dX10_fillBags_43 (Nat.le_of_ble_eq_true rfl) rfl ?_
      refine r_sub (lv' := [(0, .ref (gA G a0)), (1, .ref (gA G a1)), (2, .ref (gA G a2)), (3, .int (eI x3)), (4, .int (eI x4)), (5, .int (eI 0))]) [1, 2, 3, 4, 5, 0] rfl ?_
      exact bX10_fillBags_b45 a0 a1 a2 x3 x4 oa0 oa1 oa2 _ _ _ h
    · replace h := (if_pos c_3).symm.trans h
      refine r_sub (lv' := [(0, .ref (gA G a0)), (1, .ref (gA G a1)), (2, .ref (gA G a2)), (4, .int (eI x4))]) [0, 1, 2, 4] rfl ?_
      exact bX10_fillBags_b16 a0 a1 a2 x3 x4 oa0 oa1 oa2 _ h
theorem kX10_fillBags {G : GG} (a0 : Nat) (a1 : Nat) (a2 : Nat) (x3 : Int) (x4 : Int) (M : MM) {res : MM} (oa0 : OB L0 a0 10) (oa1 : OB L0 a1 5) (oa2 : OB L0 a2 3) (h : sX10_fillBags a0 a1 a2 x3 x4 M = some res) : CO G xX10_fillBags [.ref (gA G a0), .ref (gA G a1), .ref (gA G a2), .int (eI x3), .int (eI x4)] L0 M (none) L0 res := CO_of (by decide +kernel) (Nat.le_of_ble_eq_true rfl) (bX10_fillBags_b0 a0 a1 a2 x3 x4 oa0 oa1 oa2 M h)
abbrev xX10_uneven : XX := (yX10_uneven, cX10_uneven, 5, (some .int), 1, 23, 0, 0)
def sX10_uneven_b17 (a0 : Nat) (a1 : Nat) (M : MM)  : Nat → Int → Int → Int → Option Int
  | 0, _, _, _ => none
  | n + 1, x2, x3, x4 => (if wI (M a1 3) ≤ wI x4 then (some ((x2 - x3))) else (if 0 ≤ wI x4 ∧ wI x4 < 8 then ((some (max (wI x2) (wI (M (gR a0 0) (wI x4).toNat)))).bind fun v_4 => (if 0 ≤ wI x4 ∧ wI x4 < 8 then ((some (min (wI x3) (wI (M (gR a0 0) (wI x4).toNat)))).bind fun v_7 => ((some (x4 + 1)).bind fun v_8 => (sX10_uneven_b17 a0 a1 M n v_4 v_7 v_8))) else none)) else none))
def sX10_uneven_b0 (a0 : Nat) (a1 : Nat) (M : MM)   : Option Int := (sX10_uneven_b17 a0 a1 M FU (M (gR a0 0) 0) (M (gR a0 0) 0) 1)
def sX10_uneven (a0 : Nat) (a1 : Nat) (M : MM) : Option Int := sX10_uneven_b0 a0 a1 M
set_option maxHeartbeats 4000000 in
set_option maxRecDepth 100000 in
theorem bX10_uneven_b17 {G : GG} (a0 : Nat) (a1 : Nat) (M : MM) (oa0 : OB L0 a0 10) (oa1 : OB L0 a1 5) {res : Int} : ∀ (n : Nat) (x2 : Int) (x3 : Int) (x4 : Int)  (h : sX10_uneven_b17 a0 a1 M n x2 x3 x4 = some res), VV G xX10_uneven (ZM G xX10_uneven (some (.int (eI res))) L0 M) L0 M 0 0 17 [(0, .ref (gA G a0)), (1, .ref (gA G a1)), (2, .int (eI x2)), (3, .int (eI x3)), (4, .int (eI x4))] [] := by
  intro n
  induction n with
  | zero =>
    intro x2 x3 x4 h
    rw [sX10_uneven_b17] at h
    cases h
  | succ n ih =>
    intro x2 x3 x4 h
    rw [sX10_uneven_b17] at h
    refine r_iload (pc := 17) dX10_uneven_17 4 rfl ?_
    refine r_aload_n (pc := 19) (i := 1) dX10_uneven_19 rfl 1 rfl ?_
    refine r_getI (pc := 20) fg_10_22 rfl oa1 dX10_uneven_20 ?_
    refine r_icmp_ge (pc := 23) (tgt := 56) dX10_uneven_23 (by decide) rfl rfl (fun c_1 => ?_) (fun c_1 => ?_)
    · replace h := (if_pos c_1).symm.trans h
      refine r_iload_n (pc := 56) (i := 2) dX10_uneven_56 rfl 2 rfl ?_
      refine r_iload_n (pc := 57) (i := 3) dX10_uneven_57 rfl 3 rfl ?_
      refine r_isub (pc := 58) dX10_uneven_58 ?_
      cases h
      exact r_iret (pc := 59) rfl rfl (Nat.le_refl 0) (Nat.le_refl 0) dX10_uneven_59
    · replace h := (if_neg c_1).symm.trans h
      refine r_iload_n (pc := 26) (i := 2) dX10_uneven_26 rfl 2 rfl ?_
      refine r_aload_n (pc := 27) (i := 0) dX10_uneven_27 rfl 0 rfl ?_
      have o_2 := (wt_10_0 oa0).2
      refine r_getR (pc := 28) fg_10_9 rfl oa0 (wt_10_0 oa0).1 dX10_uneven_28 ?_
      refine r_iload (pc := 31) dX10_uneven_31 4 rfl ?_
      obtain ⟨c_3, h⟩ := og h
      refine r_iald (pc := 33) o_2 rfl c_3 rfl dX10_uneven_33 ?_
      refine r_mmax (pc := 34) ml_10_101 ⟨Nat.le_of_ble_eq_true rfl, Nat.le_of_ble_eq_true rfl, Nat.le_of_ble_eq_true rfl, Nat.le_of_ble_eq_true rfl⟩ rfl rfl dX10_uneven_34 ?_
      obtain ⟨v_4, hv_4, h⟩ := ob h
      refine r_nmI (pc := 37) hv_4 ?_
      refine r_istore_n (pc := 37) (i := 2) (lv' := [(2, .int (eI v_4)), (0, .ref (gA G a0)), (1, .ref (gA G a1)), (3, .int (eI x3)), (4, .int (eI x4))]) dX10_uneven_37 rfl (Nat.le_of_ble_eq_true rfl) rfl ?_
      refine r_iload_n (pc := 38) (i := 3) dX10_uneven_38 rfl 3 rfl ?_
      refine r_aload_n (pc := 39) (i := 0) dX10_uneven_39 rfl 1 rfl ?_
      have o_5 := (wt_10_0 oa0).2
      refine r_getR (pc := 40) fg_10_9 rfl oa0 (wt_10_0 oa0).1 dX10_uneven_40 ?_
      refine r_iload (pc := 43) dX10_uneven_43 4 rfl ?_
      obtain ⟨c_6, h⟩ := og h
      refine r_iald (pc := 45) o_5 rfl c_6 rfl dX10_uneven_45 ?_
      refine r_mmin (pc := 46) ml_10_106 ⟨Nat.le_of_ble_eq_true rfl, Nat.le_of_ble_eq_true rfl, Nat.le_of_ble_eq_true rfl, Nat.le_of_ble_eq_true rfl⟩ rfl rfl dX10_uneven_46 ?_
      obtain ⟨v_7, hv_7, h⟩ := ob h
      refine r_nmI (pc := 49) hv_7 ?_
      refine r_istore_n (pc := 49) (i := 3) (lv' := [(3, .int (eI v_7)), (2, .int (eI v_4)), (0, .ref (gA G a0)), (1, .ref (gA G a1)), (4, .int (eI x4))]) dX10_uneven_49 rfl (Nat.le_of_ble_eq_true rfl) rfl ?_
      obtain ⟨v_8, hv_8, h⟩ := ob h
      refine r_iinc (pc := 50) (y := v_8) (lv' := [(4, .int (eI v_8)), (3, .int (eI v_7)), (2, .int (eI v_4)), (0, .ref (gA G a0)), (1, .ref (gA G a1))]) dX10_uneven_50 4 rfl (Option.some.inj hv_8) (Nat.le_of_ble_eq_true rfl) rfl ?_
      refine r_goto (pc := 53) (tgt := 17) dX10_uneven_53 (by decide) ?_
      refine r_sub (lv' := [(0, .ref (gA G a0)), (1, .ref (gA G a1)), (2, .int (eI v_4)), (3, .int (eI v_7)), (4, .int (eI v_8))]) [3, 4, 2, 1, 0] rfl ?_
      exact ih _ _ _ h
set_option maxHeartbeats 4000000 in
set_option maxRecDepth 100000 in
theorem bX10_uneven_b0 {G : GG} (a0 : Nat) (a1 : Nat) (M : MM) (oa0 : OB L0 a0 10) (oa1 : OB L0 a1 5)  {res : Int}  (h : sX10_uneven_b0 a0 a1 M = some res) : VV G xX10_uneven (ZM G xX10_uneven (some (.int (eI res))) L0 M) L0 M 0 0 0 [(0, .ref (gA G a0)), (1, .ref (gA G a1))] [] := by
  unfold sX10_uneven_b0 at h
  refine r_aload_n (pc := 0) (i := 0) dX10_uneven_0 rfl 0 rfl ?_
  have o_1 := (wt_10_0 oa0).2
  refine r_getR (pc := 1) fg_10_9 rfl oa0 (wt_10_0 oa0).1 dX10_uneven_1 ?_
  refine r_iconst (pc := 4) (v := 0) dX10_uneven_4 (by decide +kernel) ?_
  refine r_iald (pc := 5) o_1 wl_0 ⟨by decide, by decide⟩ rfl dX10_uneven_5 ?_
  refine r_istore_n (pc := 6) (i := 2) (lv' := [(2, .int (eI (M (gR a0 0) 0))), (0, .ref (gA G a0)), (1, .ref (gA G a1))]) dX10_uneven_6 rfl (Nat.le_of_ble_eq_true rfl) rfl ?_
  refine r_aload_n (pc := 7) (i := 0) dX10_uneven_7 rfl 1 rfl ?_
  have o_2 := (wt_10_0 oa0).2
  refine r_getR (pc := 8) fg_10_9 rfl oa0 (wt_10_0 oa0).1 dX10_uneven_8 ?_
  refine r_iconst (pc := 11) (v := 0) dX10_uneven_11 (by decide +kernel) ?_
  refine r_iald (pc := 12) o_2 wl_0 ⟨by decide, by decide⟩ rfl dX10_uneven_12 ?_
  refine r_istore_n (pc := 13) (i := 3) (lv' := [(3, .int (eI (M (gR a0 0) 0))), (2, .int (eI (M (gR a0 0) 0))), (0, .ref (gA G a0)), (1, .ref (gA G a1))]) dX10_uneven_13 rfl (Nat.le_of_ble_eq_true rfl) rfl ?_
  refine r_iconst (pc := 14) (v := 1) dX10_uneven_14 (by decide +kernel) ?_
  refine r_istore (pc := 15) (lv' := [(4, .int (eI 1)), (3, .int (eI (M (gR a0 0) 0))), (2, .int (eI (M (gR a0 0) 0))), (0, .ref (gA G a0)), (1, .ref (gA G a1))]) dX10_uneven_15 (Nat.le_of_ble_eq_true rfl) rfl ?_
  refine r_sub (lv' := [(0, .ref (gA G a0)), (1, .ref (gA G a1)), (2, .int (eI (M (gR a0 0) 0))), (3, .int (eI (M (gR a0 0) 0))), (4, .int (eI 1))]) [3, 4, 2, 1, 0] rfl ?_
  exact bX10_uneven_b17 a0 a1 M oa0 oa1 _ _ _ _ h
theorem kX10_uneven {G : GG} (a0 : Nat) (a1 : Nat) (M : MM) {res : Int} (oa0 : OB L0 a0 10) (oa1 : OB L0 a1 5) (h : sX10_uneven a0 a1 M = some res) : CO G xX10_uneven [.ref (gA G a0), .ref (gA G a1)] L0 M (some (.int (eI res))) L0 M := CO_of (by decide +kernel) (Nat.le_of_ble_eq_true rfl) (bX10_uneven_b0 a0 a1 M oa0 oa1 h)
abbrev xX10_mostJust : XX := (yX10_mostJust, cX10_mostJust, 8, (some .int), 5, 123, 0, 0)
theorem ck_X10_mostJust_109 : CKV xX10_mostJust 109 xX10_fillBags 4 := ⟨⟨tb_i 1264 (by decide +kernel) (by decide +kernel), tb_i 150 (by decide +kernel) (by decide +kernel), tb_i 1267 (by decide +kernel) (by decide +kernel), ⟨by decide +kernel, by decide +kernel, by decide +kernel⟩, by decide, by decide⟩, tb_i 1265 (by decide +kernel) (by decide +kernel), tb_i 1266 (by decide +kernel) (by decide +kernel)⟩
theorem ck_X10_mostJust_113 : CKV xX10_mostJust 113 xX10_uneven 1 := ⟨⟨tb_i 1292 (by decide +kernel) (by decide +kernel), tb_i 150 (by decide +kernel) (by decide +kernel), tb_i 1295 (by decide +kernel) (by decide +kernel), ⟨by decide +kernel, by decide +kernel, by decide +kernel⟩, by decide, by decide⟩, tb_i 1293 (by decide +kernel) (by decide +kernel), tb_i 1294 (by decide +kernel) (by decide +kernel)⟩
def sX10_mostJust_b52 (a0 : Nat) (a1 : Nat) (a2 : Nat) (x3 : Int) (K9 : Int → Int → Int → MM → Option (Int × MM)) (x4 : Int) (x5 : Int) (x6 : Int) (M : MM) : Option (Int × MM) := ((some (x6 + 1)).bind fun v_1 => (K9 x4 x5 v_1 M))
def sX10_mostJust_b44 (a0 : Nat) (a1 : Nat) (a2 : Nat) (x3 : Int) (K9 : Int → Int → Int → MM → Option (Int × MM)) (x6 : Int) (x7 : Int) (M : MM) : Option (Int × MM) := (sX10_mostJust_b52 a0 a1 a2 x3 K9 x6 x7 x6 M)
def sX10_mostJust_b9 (a0 : Nat) (a1 : Nat) (a2 : Nat) (x3 : Int)  : Nat → Int → Int → Int → MM → Option (Int × MM)
  | 0, _, _, _, _ => none
  | n + 1, x4, x5, x6, M => (if 3 < wI x6 then (some ((x4, M))) else ((sX10_fillBags a0 a1 a2 x3 x6 M).bind fun q_2 => ((sX10_uneven a0 a1 q_2).bind fun q_3 => (if wI x4 = (-1) then (sX10_mostJust_b44 a0 a1 a2 x3 (fun x4 x5 x6 M => sX10_mostJust_b9 a0 a1 a2 x3 n x4 x5 x6 M) x6 q_3 q_2) else (if wI x5 ≤ wI q_3 then (sX10_mostJust_b52 a0 a1 a2 x3 (fun x4 x5 x6 M => sX10_mostJust_b9 a0 a1 a2 x3 n x4 x5 x6 M) x4 x5 x6 q_2) else (sX10_mostJust_b44 a0 a1 a2 x3 (fun x4 x5 x6 M => sX10_mostJust_b9 a0 a1 a2 x3 n x4 x5 x6 M) x6 q_3 q_2))))))
def sX10_mostJust_b0 (a0 : Nat) (a1 : Nat) (a2 : Nat) (x3 : Int)   (M : MM) : Option (Int × MM) := (sX10_mostJust_b9 a0 a1 a2 x3 FU (-1) 0 0 M)
def sX10_mostJust (a0 : Nat) (a1 : Nat) (a2 : Nat) (x3 : Int) (M : MM) : Option (Int × MM) := sX10_mostJust_b0 a0 a1 a2 x3 M
set_option maxHeartbeats 4000000 in
set_option maxRecDepth 100000 in
theorem bX10_mostJust_b52 {G : GG} (a0 : Nat) (a1 : Nat) (a2 : Nat) (x3 : Int) (oa0 : OB L0 a0 10) (oa1 : OB L0 a1 5) (oa2 : OB L0 a2 3) {K9 : Int → Int → Int → MM → Option (Int × MM)} (x4 : Int) (x5 : Int) (x6 : Int) (M : MM) {res : (Int × MM)} (hK9 : ∀ (x4 : Int) (x5 : Int) (x6 : Int) (M : MM), K9 x4 x5 x6 M = some res → VV G xX10_mostJust (ZM G xX10_mostJust (some (.int (eI res.1))) L0 res.2) L0 M 0 0 9 [(0, .ref (gA G a0)), (1, .ref (gA G a1)), (2, .ref (gA G a2)), (3, .int (eI x3)), (4, .int (eI x4)), (5, .int (eI x5)), (6, .int (eI x6))] [])  (h : sX10_mostJust_b52 a0 a1 a2 x3 K9 x4 x5 x6 M = some res) : VV G xX10_mostJust (ZM G xX10_mostJust (some (.int (eI res.1))) L0 res.2) L0 M 0 0 52 [(0, .ref (gA G a0)), (1, .ref (gA G a1)), (2, .ref (gA G a2)), (3, .int (eI x3)), (4, .int (eI x4)), (5, .int (eI x5)), (6, .int (eI x6))] [] := by
  unfold sX10_mostJust_b52 at h
  obtain ⟨v_1, hv_1, h⟩ := ob h
  refine r_iinc (pc := 52) (y := v_1) (lv' := [(6, .int (eI v_1)), (0, .ref (gA G a0)), (1, .ref (gA G a1)), (2, .ref (gA G a2)), (3, .int (eI x3)), (4, .int (eI x4)), (5, .int (eI x5))]) dX10_mostJust_52 6 rfl (Option.some.inj hv_1) (Nat.le_of_ble_eq_true rfl) rfl ?_
  refine r_goto (pc := 55) (tgt := 9) dX10_mostJust_55 (by decide) ?_
  refine r_sub (lv' := [(0, .ref (gA G a0)), (1, .ref (gA G a1)), (2, .ref (gA G a2)), (3, .int (eI x3)), (4, .int (eI x4)), (5, .int (eI x5)), (6, .int (eI v_1))]) [1, 2, 3, 4, 5, 6, 0] rfl ?_
  exact hK9 _ _ _ _ h
set_option maxHeartbeats 4000000 in
set_option maxRecDepth 100000 in
theorem bX10_mostJust_b44 {G : GG} (a0 : Nat) (a1 : Nat) (a2 : Nat) (x3 : Int) (oa0 : OB L0 a0 10) (oa1 : OB L0 a1 5) (oa2 : OB L0 a2 3) {K9 : Int → Int → Int → MM → Option (Int × MM)} (x6 : Int) (x7 : Int) (M : MM) {res : (Int × MM)} (hK9 : ∀ (x4 : Int) (x5 : Int) (x6 : Int) (M : MM), K9 x4 x5 x6 M = some res → VV G xX10_mostJust (ZM G xX10_mostJust (some (.int (eI res.1))) L0 res.2) L0 M 0 0 9 [(0, .ref (gA G a0)), (1, .ref (gA G a1)), (2, .ref (gA G a2)), (3, .int (eI x3)), (4, .int (eI x4)), (5, .int (eI x5)), (6, .int (eI x6))] [])  (h : sX10_mostJust_b44 a0 a1 a2 x3 K9 x6 x7 M = some res) : VV G xX10_mostJust (ZM G xX10_mostJust (some (.int (eI res.1))) L0 res.2) L0 M 0 0 44 [(0, .ref (gA G a0)), (1, .ref (gA G a1)), (2, .ref (gA G a2)), (3, .int (eI x3)), (6, .int (eI x6)), (7, .int (eI x7))] [] := by
  unfold sX10_mostJust_b44 at h
  refine r_iload (pc := 44) dX10_mostJust_44 4 rfl ?_
  refine r_istore (pc := 46) (lv' := [(4, .int (eI x6)), (0, .ref (gA G a0)), (1, .ref (gA G a1)), (2, .ref (gA G a2)), (3, .int (eI x3)), (6, .int (eI x6)), (7, .int (eI x7))]) dX10_mostJust_46 (Nat.le_of_ble_eq_true rfl) rfl ?_
  refine r_iload (pc := 48) dX10_mostJust_48 6 rfl ?_
  refine r_istore (pc := 50) (lv' := [(5, .int (eI x7)), (4, .int (eI x6)), (0, .ref (gA G a0)), (1, .ref (gA G a1)), (2, .ref (gA G a2)), (3, .int (eI x3)), (6, .int (eI x6)), (7, .int (eI x7))]) dX10_mostJust_50 (Nat.le_of_ble_eq_true rfl) rfl ?_
  refine r_sub (lv' := [(0, .ref (gA G a0)), (1, .ref (gA G a1)), (2, .ref (gA G a2)), (3, .int (eI x3)), (4, .int (eI x6)), (5, .int (eI x7)), (6, .int (eI x6))]) [2, 3, 4, 5, 1, 0, 6] rfl ?_
  exact bX10_mostJust_b52 a0 a1 a2 x3 oa0 oa1 oa2 _ _ _ _ hK9 h
set_option maxHeartbeats 4000000 in
set_option maxRecDepth 100000 in
theorem bX10_mostJust_b9 {G : GG} (a0 : Nat) (a1 : Nat) (a2 : Nat) (x3 : Int) (oa0 : OB L0 a0 10) (oa1 : OB L0 a1 5) (oa2 : OB L0 a2 3) {res : (Int × MM)} : ∀ (n : Nat) (x4 : Int) (x5 : Int) (x6 : Int) (M : MM)  (h : sX10_mostJust_b9 a0 a1 a2 x3 n x4 x5 x6 M = some res), VV G xX10_mostJust (ZM G xX10_mostJust (some (.int (eI res.1))) L0 res.2) L0 M 0 0 9 [(0, .ref (gA G a0)), (1, .ref (gA G a1)), (2, .ref (gA G a2)), (3, .int (eI x3)), (4, .int (eI x4)), (5, .int (eI x5)), (6, .int (eI x6))] [] := by
  intro n
  induction n with
  | zero =>
    intro x4 x5 x6 M h
    rw [sX10_mostJust_b9] at h
    cases h
  | succ n ih =>
    intro x4 x5 x6 M h
    rw [sX10_mostJust_b9] at h
    refine r_iload (pc := 9) dX10_mostJust_9 6 rfl ?_
    refine r_iconst (pc := 11) (v := 3) dX10_mostJust_11 (by decide +kernel) ?_
    refine r_icmp_gt (pc := 12) (tgt := 58) dX10_mostJust_12 (by decide) rfl wl_3 (fun c_1 => ?_) (fun c_1 => ?_)
    · replace h := (if_pos c_1).symm.trans h
      refine r_iload (pc := 58) dX10_mostJust_58 4 rfl ?_
      cases h
      exact r_iret (pc := 60) rfl rfl (Nat.le_refl 0) (Nat.le_refl 0) dX10_mostJust_60
    · replace h := (if_neg c_1).symm.trans h
      refine r_aload_n (pc := 15) (i := 0) dX10_mostJust_15 rfl 0 rfl ?_
      refine r_aload_n (pc := 16) (i := 1) dX10_mostJust_16 rfl 1 rfl ?_
      refine r_aload_n (pc := 17) (i := 2) dX10_mostJust_17 rfl 2 rfl ?_
      refine r_iload_n (pc := 18) (i := 3) dX10_mostJust_18 rfl 3 rfl ?_
      refine r_iload (pc := 19) dX10_mostJust_19 6 rfl ?_
      obtain ⟨q_2, hq_2, h⟩ := ob h
      refine r_cV (pc := 21) (Y := xX10_fillBags) (As := [.ref (gA G a1), .ref (gA G a2), .int (eI x3), .int (eI x6)]) (rest := []) (v := none) (st1 := []) ck_X10_mostJust_109 (kX10_fillBags a0 a1 a2 x3 x6 M oa0 oa1 oa2 hq_2) oa0 rfl rfl rfl rfl (Nat.le_of_ble_eq_true rfl) ⟨rfl, rfl⟩ rfl dX10_mostJust_21 ?_
      refine r_aload_n (pc := 24) (i := 0) dX10_mostJust_24 rfl 0 rfl ?_
      refine r_aload_n (pc := 25) (i := 1) dX10_mostJust_25 rfl 1 rfl ?_
      obtain ⟨q_3, hq_3, h⟩ := ob h
      refine r_cV (pc := 26) (Y := xX10_uneven) (As := [.ref (gA G a1)]) (rest := []) (v := (some (.int (eI q_3)))) (st1 := [.int (eI q_3)]) ck_X10_mostJust_113 (kX10_uneven a0 a1 q_2 oa0 oa1 hq_3) oa0 rfl rfl rfl rfl (Nat.le_of_ble_eq_true rfl) ⟨rfl, rfl⟩ rfl dX10_mostJust_26 ?_
      refine r_istore (pc := 29) (lv' := [(7, .int (eI q_3)), (0, .ref (gA G a0)), (1, .ref (gA G a1)), (2, .ref (gA G a2)), (3, .int (eI x3)), (4, .int (eI x4)), (5, .int (eI x5)), (6, .int (eI x6))]) dX10_mostJust_29 (Nat.le_of_ble_eq_true rfl) rfl ?_
      refine r_iload (pc := 31) dX10_mostJust_31 5 rfl ?_
      refine r_iconst (pc := 33) (v := (-1)) dX10_mostJust_33 (by decide +kernel) ?_
      refine r_icmp_eq (pc := 34) (tgt := 44) dX10_mostJust_34 (by decide) rfl wl_m1 (fun c_4 => ?_) (fun c_4 => ?_)
      · replace h := (if_pos c_4).symm.trans h
        refine r_sub (lv' := [(0, .ref (gA G a0)), (1, .ref (gA G a1)), (2, .ref (gA G a2)), (3, .int (eI x3)), (6, .int (eI x6)), (7, .int (eI q_3))]) [1, 2, 3, 4, 7, 0] rfl ?_
        exact bX10_mostJust_b44 a0 a1 a2 x3 oa0 oa1 oa2 _ _ _ (fun v0 v1 v2 v3 v4 => ih v0 v1 v2 v3 v4) h
      · replace h := (if_neg c_4).symm.trans h
        refine r_iload (pc := 37) dX10_mostJust_37 0 rfl ?_
        refine r_iload (pc := 39) dX10_mostJust_39 6 rfl ?_
        refine r_icmp_ge (pc := 41) (tgt := 52) dX10_mostJust_41 (by decide) rfl rfl (fun c_5 => ?_) (fun c_5 => ?_)
        · replace h := (if_pos c_5).symm.trans h
          refine r_sub (lv' := [(0, .ref (gA G a0)), (1, .ref (gA G a1)), (2, .ref (gA G a2)), (3, .int (eI x3)), (4, .int (eI x4)), (5, .int (eI x5)), (6, .int (eI x6))]) [1, 2, 3, 4, 5, 6, 7] rfl ?_
          exact bX10_mostJust_b52 a0 a1 a2 x3 oa0 oa1 oa2 _ _ _ _ (fun v0 v1 v2 v3 v4 => ih v0 v1 v2 v3 v4) h
        · replace h := (if_neg c_5).symm.trans h
          refine r_sub (lv' := [(0, .ref (gA G a0)), (1, .ref (gA G a1)), (2, .ref (gA G a2)), (3, .int (eI x3)), (6, .int (eI x6)), (7, .int (eI q_3))]) [1, 2, 3, 4, 7, 0] rfl ?_
          exact bX10_mostJust_b44 a0 a1 a2 x3 oa0 oa1 oa2 _ _ _ (fun v0 v1 v2 v3 v4 => ih v0 v1 v2 v3 v4) h
set_option maxHeartbeats 4000000 in
set_option maxRecDepth 100000 in
theorem bX10_mostJust_b0 {G : GG} (a0 : Nat) (a1 : Nat) (a2 : Nat) (x3 : Int) (oa0 : OB L0 a0 10) (oa1 : OB L0 a1 5) (oa2 : OB L0 a2 3)  (M : MM) {res : (Int × MM)}  (h : sX10_mostJust_b0 a0 a1 a2 x3 M = some res) : VV G xX10_mostJust (ZM G xX10_mostJust (some (.int (eI res.1))) L0 res.2) L0 M 0 0 0 [(0, .ref (gA G a0)), (1, .ref (gA G a1)), (2, .ref (gA G a2)), (3, .int (eI x3))] [] := by
  unfold sX10_mostJust_b0 at h
  refine r_iconst (pc := 0) (v := (-1)) dX10_mostJust_0 (by decide +kernel) ?_
  refine r_istore (pc := 1) (lv' := [(4, .int (eI (-1))), (0, .ref (gA G a0)), (1, .ref (gA G a1)), (2, .ref (gA G a2)), (3, .int (eI x3))]) dX10_mostJust_1 (Nat.le_of_ble_eq_true rfl) rfl ?_
  refine r_iconst (pc := 3) (v := 0) dX10_mostJust_3 (by decide +kernel) ?_
  refine r_istore (pc := 4) (lv' := [(5, .int (eI 0)), (4, .int (eI (-1))), (0, .ref (gA G a0)), (1, .ref (gA G a1)), (2, .ref (gA G a2)), (3, .int (eI x3))]) dX10_mostJust_4 (Nat.le_of_ble_eq_true rfl) rfl ?_
  refine r_iconst (pc := 6) (v := 0) dX10_mostJust_6 (by decide +kernel) ?_
  refine r_istore (pc := 7) (lv' := [(6, .int (eI 0)), (5, .int (eI 0)), (4, .int (eI (-1))), (0, .ref (gA G a0)), (1, .ref (gA G a1)), (2, .ref (gA G a2)), (3, .int (eI x3))]) dX10_mostJust_7 (Nat.le_of_ble_eq_true rfl) rfl ?_
  refine r_sub (lv' := [(0, .ref (gA G a0)), (1, .ref (gA G a1)), (2, .ref (gA G a2)), (3, .int (eI x3)), (4, .int (eI (-1))), (5, .int (eI 0)), (6, .int (eI 0))]) [3, 4, 5, 6, 2, 1, 0] rfl ?_
  exact bX10_mostJust_b9 a0 a1 a2 x3 oa0 oa1 oa2 _ _ _ _ _ h
theorem kX10_mostJust {G : GG} (a0 : Nat) (a1 : Nat) (a2 : Nat) (x3 : Int) (M : MM) {res : (Int × MM)} (oa0 : OB L0 a0 10) (oa1 : OB L0 a1 5) (oa2 : OB L0 a2 3) (h : sX10_mostJust a0 a1 a2 x3 M = some res) : CO G xX10_mostJust [.ref (gA G a0), .ref (gA G a1), .ref (gA G a2), .int (eI x3)] L0 M (some (.int (eI res.1))) L0 res.2 := CO_of (by decide +kernel) (Nat.le_of_ble_eq_true rfl) (bX10_mostJust_b0 a0 a1 a2 x3 oa0 oa1 oa2 M h)
abbrev xX11_feed : XX := (yX11_feed, cX11_feed, 6, (some .int), 1, 22, 0, 0)
theorem ck_X11_feed_70 : CKV xX11_feed 70 xX9_append 1 := ⟨⟨tb_i 615 (by decide +kernel) (by decide +kernel), tb_i 140 (by decide +kernel) (by decide +kernel), tb_i 618 (by decide +kernel) (by decide +kernel), ⟨by decide +kernel, by decide +kernel, by decide +kernel⟩, by decide, by decide⟩, tb_i 616 (by decide +kernel) (by decide +kernel), tb_i 617 (by decide +kernel) (by decide +kernel)⟩
def sX11_feed_b0 (a0 : Nat) (x1 : Int) (x2 : Int) (x3 : Int) (x4 : Int) (x5 : Int)   (M : MM) : Option (Int × MM) := (if wI ((M (gR a0 0) 1) + 20) ≤ 600 then ((sX9_append (gR a0 0) x1 M).bind fun q_4 => ((sX9_append (gR a0 0) x2 q_4).bind fun q_6 => ((sX9_append (gR a0 0) x3 q_6).bind fun q_8 => ((sX9_append (gR a0 0) x4 q_8).bind fun q_10 => ((sX9_append (gR a0 0) x5 q_10).bind fun q_12 => (some (((q_12 (gR a0 0) 1), q_12)))))))) else (some (((-1), M))))
def sX11_feed (a0 : Nat) (x1 : Int) (x2 : Int) (x3 : Int) (x4 : Int) (x5 : Int) (M : MM) : Option (Int × MM) := sX11_feed_b0 a0 x1 x2 x3 x4 x5 M
set_option maxHeartbeats 4000000 in
set_option maxRecDepth 100000 in
theorem bX11_feed_b0 {G : GG} (a0 : Nat) (x1 : Int) (x2 : Int) (x3 : Int) (x4 : Int) (x5 : Int) (oa0 : OB L0 a0 11)  (M : MM) {res : (Int × MM)}  (h : sX11_feed_b0 a0 x1 x2 x3 x4 x5 M = some res) : VV G xX11_feed (ZM G xX11_feed (some (.int (eI res.1))) L0 res.2) L0 M 0 0 0 [(0, .ref (gA G a0)), (1, .int (eI x1)), (2, .int (eI x2)), (3, .int (eI x3)), (4, .int (eI x4)), (5, .int (eI x5))] [] := by
  unfold sX11_feed_b0 at h
  refine r_aload_n (pc := 0) (i := 0) dX11_feed_0 rfl 0 rfl ?_
  have o_1 := (wt_11_0 oa0).2
  refine r_getR (pc := 1) fg_11_10 rfl oa0 (wt_11_0 oa0).1 dX11_feed_1 ?_
  refine r_getI (pc := 4) fg_11_66 rfl o_1 dX11_feed_4 ?_
  refine r_bipush (pc := 7) (v := 20) dX11_feed_7 (by decide +kernel) ?_
  refine r_iadd (pc := 9) dX11_feed_9 ?_
  refine r_sipush (pc := 10) (v := 600) dX11_feed_10 (by decide +kernel) ?_
  refine r_icmp_le (pc := 13) (tgt := 18) dX11_feed_13 (by decide) rfl wl_600 (fun c_2 => ?_) (fun c_2 => ?_)
  · replace h := (if_pos c_2).symm.trans h
    refine r_aload_n (pc := 18) (i := 0) dX11_feed_18 rfl 0 rfl ?_
    have o_3 := (wt_11_0 oa0).2
    refine r_getR (pc := 19) fg_11_10 rfl oa0 (wt_11_0 oa0).1 dX11_feed_19 ?_
    refine r_iload_n (pc := 22) (i := 1) dX11_feed_22 rfl 1 rfl ?_
    obtain ⟨q_4, hq_4, h⟩ := ob h
    refine r_cV (pc := 23) (Y := xX9_append) (As := [.int (eI x1)]) (rest := []) (v := none) (st1 := []) ck_X11_feed_70 (kX9_append (gR a0 0) x1 M o_3 hq_4) o_3 rfl rfl rfl rfl (Nat.le_of_ble_eq_true rfl) ⟨rfl, rfl⟩ rfl dX11_feed_23 ?_
    refine r_aload_n (pc := 26) (i := 0) dX11_feed_26 rfl 0 rfl ?_
    have o_5 := (wt_11_0 oa0).2
    refine r_getR (pc := 27) fg_11_10 rfl oa0 (wt_11_0 oa0).1 dX11_feed_27 ?_
    refine r_iload_n (pc := 30) (i := 2) dX11_feed_30 rfl 2 rfl ?_
    obtain ⟨q_6, hq_6, h⟩ := ob h
    refine r_cV (pc := 31) (Y := xX9_append) (As := [.int (eI x2)]) (rest := []) (v := none) (st1 := []) ck_X11_feed_70 (kX9_append (gR a0 0) x2 q_4 o_5 hq_6) o_5 rfl rfl rfl rfl (Nat.le_of_ble_eq_true rfl) ⟨rfl, rfl⟩ rfl dX11_feed_31 ?_
    refine r_aload_n (pc := 34) (i := 0) dX11_feed_34 rfl 0 rfl ?_
    have o_7 := (wt_11_0 oa0).2
    refine r_getR (pc := 35) fg_11_10 rfl oa0 (wt_11_0 oa0).1 dX11_feed_35 ?_
    refine r_iload_n (pc := 38) (i := 3) dX11_feed_38 rfl 3 rfl ?_
    obtain ⟨q_8, hq_8, h⟩ := ob h
    refine r_cV (pc := 39) (Y := xX9_append) (As := [.int (eI x3)]) (rest := []) (v := none) (st1 := []) ck_X11_feed_70 (kX9_append (gR a0 0) x3 q_6 o_7 hq_8) o_7 rfl rfl rfl rfl (Nat.le_of_ble_eq_true rfl) ⟨rfl, rfl⟩ rfl dX11_feed_39 ?_
    refine r_aload_n (pc := 42) (i := 0) dX11_feed_42 rfl 0 rfl ?_
    have o_9 := (wt_11_0 oa0).2
    refine r_getR (pc := 43) fg_11_10 rfl oa0 (wt_11_0 oa0).1 dX11_feed_43 ?_
    refine r_iload (pc := 46) dX11_feed_46 4 rfl ?_
    obtain ⟨q_10, hq_10, h⟩ := ob h
    refine r_cV (pc := 48) (Y := xX9_append) (As := [.int (eI x4)]) (rest := []) (v := none) (st1 := []) ck_X11_feed_70 (kX9_append (gR a0 0) x4 q_8 o_9 hq_10) o_9 rfl rfl rfl rfl (Nat.le_of_ble_eq_true rfl) ⟨rfl, rfl⟩ rfl dX11_feed_48 ?_
    refine r_aload_n (pc := 51) (i := 0) dX11_feed_51 rfl 0 rfl ?_
    have o_11 := (wt_11_0 oa0).2
    refine r_getR (pc := 52) fg_11_10 rfl oa0 (wt_11_0 oa0).1 dX11_feed_52 ?_
    refine r_iload (pc := 55) dX11_feed_55 5 rfl ?_
    obtain ⟨q_12, hq_12, h⟩ := ob h
    refine r_cV (pc := 57) (Y := xX9_append) (As := [.int (eI x5)]) (rest := []) (v := none) (st1 := []) ck_X11_feed_70 (kX9_append (gR a0 0) x5 q_10 o_11 hq_12) o_11 rfl rfl rfl rfl (Nat.le_of_ble_eq_true rfl) ⟨rfl, rfl⟩ rfl dX11_feed_57 ?_
    refine r_aload_n (pc := 60) (i := 0) dX11_feed_60 rfl 0 rfl ?_
    have o_13 := (wt_11_0 oa0).2
    refine r_getR (pc := 61) fg_11_10 rfl oa0 (wt_11_0 oa0).1 dX11_feed_61 ?_
    refine r_getI (pc := 64) fg_11_66 rfl o_13 dX11_feed_64 ?_
    cases h
    exact r_iret (pc := 67) rfl rfl (Nat.le_refl 0) (Nat.le_refl 0) dX11_feed_67
  · replace h := (if_neg c_2).symm.trans h
    refine r_iconst (pc := 16) (v := (-1)) dX11_feed_16 (by decide +kernel) ?_
    cases h
    exact r_iret (pc := 17) rfl rfl (Nat.le_refl 0) (Nat.le_refl 0) dX11_feed_17
theorem kX11_feed {G : GG} (a0 : Nat) (x1 : Int) (x2 : Int) (x3 : Int) (x4 : Int) (x5 : Int) (M : MM) {res : (Int × MM)} (oa0 : OB L0 a0 11) (h : sX11_feed a0 x1 x2 x3 x4 x5 M = some res) : CO G xX11_feed [.ref (gA G a0), .int (eI x1), .int (eI x2), .int (eI x3), .int (eI x4), .int (eI x5)] L0 M (some (.int (eI res.1))) L0 res.2 := CO_of (by decide +kernel) (Nat.le_of_ble_eq_true rfl) (bX11_feed_b0 a0 x1 x2 x3 x4 x5 oa0 M h)
abbrev xX11_end : XX := (yX11_end, cX11_end, 2, (some .int), 0, 0, 0, 0)
def sX11_end_b0 (a0 : Nat) (x1 : Int)   (M : MM) : Option (Int × MM) := (if wI x1 < 0 then (some (((-1), M))) else (if wI x1 ≤ wI (M (gR a0 0) 1) then ((some (mU M (gR a0 0) 1 x1)).bind fun M_5 => (some ((x1, M_5)))) else (some (((-1), M)))))
def sX11_end (a0 : Nat) (x1 : Int) (M : MM) : Option (Int × MM) := sX11_end_b0 a0 x1 M
set_option maxHeartbeats 4000000 in
set_option maxRecDepth 100000 in
theorem bX11_end_b0 {G : GG} (a0 : Nat) (x1 : Int) (oa0 : OB L0 a0 11)  (M : MM) {res : (Int × MM)}  (h : sX11_end_b0 a0 x1 M = some res) : VV G xX11_end (ZM G xX11_end (some (.int (eI res.1))) L0 res.2) L0 M 0 0 0 [(0, .ref (gA G a0)), (1, .int (eI x1))] [] := by
  unfold sX11_end_b0 at h
  refine r_iload_n (pc := 0) (i := 1) dX11_end_0 rfl 1 rfl ?_
  refine r_if_lt (pc := 1) (tgt := 15) dX11_end_1 (by decide) rfl (fun c_1 => ?_) (fun c_1 => ?_)
  · replace h := (if_pos c_1).symm.trans h
    refine r_iconst (pc := 15) (v := (-1)) dX11_end_15 (by decide +kernel) ?_
    cases h
    exact r_iret (pc := 16) rfl rfl (Nat.le_refl 0) (Nat.le_refl 0) dX11_end_16
  · replace h := (if_neg c_1).symm.trans h
    refine r_iload_n (pc := 4) (i := 1) dX11_end_4 rfl 1 rfl ?_
    refine r_aload_n (pc := 5) (i := 0) dX11_end_5 rfl 0 rfl ?_
    have o_2 := (wt_11_0 oa0).2
    refine r_getR (pc := 6) fg_11_10 rfl oa0 (wt_11_0 oa0).1 dX11_end_6 ?_
    refine r_getI (pc := 9) fg_11_66 rfl o_2 dX11_end_9 ?_
    refine r_icmp_le (pc := 12) (tgt := 17) dX11_end_12 (by decide) rfl rfl (fun c_3 => ?_) (fun c_3 => ?_)
    · replace h := (if_pos c_3).symm.trans h
      refine r_aload_n (pc := 17) (i := 0) dX11_end_17 rfl 0 rfl ?_
      have o_4 := (wt_11_0 oa0).2
      refine r_getR (pc := 18) fg_11_10 rfl oa0 (wt_11_0 oa0).1 dX11_end_18 ?_
      refine r_iload_n (pc := 21) (i := 1) dX11_end_21 rfl 1 rfl ?_
      obtain ⟨M_5, hM_5, h⟩ := ob h
      refine r_putI (pc := 22) fg_11_66 rfl o_4 hM_5 rfl rfl dX11_end_22 ?_
      refine r_iload_n (pc := 25) (i := 1) dX11_end_25 rfl 1 rfl ?_
      cases h
      exact r_iret (pc := 26) rfl rfl (Nat.le_refl 0) (Nat.le_refl 0) dX11_end_26
    · replace h := (if_neg c_3).symm.trans h
      refine r_iconst (pc := 15) (v := (-1)) dX11_end_15 (by decide +kernel) ?_
      cases h
      exact r_iret (pc := 16) rfl rfl (Nat.le_refl 0) (Nat.le_refl 0) dX11_end_16
theorem kX11_end {G : GG} (a0 : Nat) (x1 : Int) (M : MM) {res : (Int × MM)} (oa0 : OB L0 a0 11) (h : sX11_end a0 x1 M = some res) : CO G xX11_end [.ref (gA G a0), .int (eI x1)] L0 M (some (.int (eI res.1))) L0 res.2 := CO_of (by decide +kernel) (Nat.le_of_ble_eq_true rfl) (bX11_end_b0 a0 x1 oa0 M h)
abbrev xX11_placeFor : XX := (yX11_placeFor, cX11_placeFor, 4, (some .int), 0, 0, 0, 0)
def sX11_placeFor_b0 (a0 : Nat) (x1 : Int) (x2 : Int) (M : MM)   : Option Int := (if wI x1 < 0 then (some ((-1))) else (if wI x1 < 5 then (if 0 ≤ wI x1 ∧ wI x1 < 5 then ((some (M (gR (gR a0 0) 4) (wI x1).toNat)).bind fun v_6 => (if wI x2 = (-1) then (if 2 ≤ wI v_6 then (some ((-1))) else (some (v_6))) else (if wI x2 < 0 then (some ((-1))) else (if wI v_6 ≤ wI x2 then (some ((-1))) else (some (x2)))))) else none) else (some ((-1)))))
def sX11_placeFor (a0 : Nat) (x1 : Int) (x2 : Int) (M : MM) : Option Int := sX11_placeFor_b0 a0 x1 x2 M
set_option maxHeartbeats 4000000 in
set_option maxRecDepth 100000 in
theorem bX11_placeFor_b0 {G : GG} (a0 : Nat) (x1 : Int) (x2 : Int) (M : MM) (oa0 : OB L0 a0 11)  {res : Int}  (h : sX11_placeFor_b0 a0 x1 x2 M = some res) : VV G xX11_placeFor (ZM G xX11_placeFor (some (.int (eI res))) L0 M) L0 M 0 0 0 [(0, .ref (gA G a0)), (1, .int (eI x1)), (2, .int (eI x2))] [] := by
  unfold sX11_placeFor_b0 at h
  refine r_iload_n (pc := 0) (i := 1) dX11_placeFor_0 rfl 1 rfl ?_
  refine r_if_lt (pc := 1) (tgt := 9) dX11_placeFor_1 (by decide) rfl (fun c_1 => ?_) (fun c_1 => ?_)
  · replace h := (if_pos c_1).symm.trans h
    refine r_iconst (pc := 9) (v := (-1)) dX11_placeFor_9 (by decide +kernel) ?_
    cases h
    exact r_iret (pc := 10) rfl rfl (Nat.le_refl 0) (Nat.le_refl 0) dX11_placeFor_10
  · replace h := (if_neg c_1).symm.trans h
    refine r_iload_n (pc := 4) (i := 1) dX11_placeFor_4 rfl 1 rfl ?_
    refine r_iconst (pc := 5) (v := 5) dX11_placeFor_5 (by decide +kernel) ?_
    refine r_icmp_lt (pc := 6) (tgt := 11) dX11_placeFor_6 (by decide) rfl wl_5 (fun c_2 => ?_) (fun c_2 => ?_)
    · replace h := (if_pos c_2).symm.trans h
      refine r_aload_n (pc := 11) (i := 0) dX11_placeFor_11 rfl 0 rfl ?_
      have o_3 := (wt_11_0 oa0).2
      refine r_getR (pc := 12) fg_11_10 rfl oa0 (wt_11_0 oa0).1 dX11_placeFor_12 ?_
      have o_4 := (wt_9_4 o_3).2
      refine r_getR (pc := 15) fg_11_317 rfl o_3 (wt_9_4 o_3).1 dX11_placeFor_15 ?_
      refine r_iload_n (pc := 18) (i := 1) dX11_placeFor_18 rfl 1 rfl ?_
      obtain ⟨c_5, h⟩ := og h
      refine r_iald (pc := 19) o_4 rfl c_5 rfl dX11_placeFor_19 ?_
      obtain ⟨v_6, hv_6, h⟩ := ob h
      refine r_nmI (pc := 20) hv_6 ?_
      refine r_istore_n (pc := 20) (i := 3) (lv' := [(3, .int (eI v_6)), (0, .ref (gA G a0)), (1, .int (eI x1)), (2, .int (eI x2))]) dX11_placeFor_20 rfl (Nat.le_of_ble_eq_true rfl) rfl ?_
      refine r_iload_n (pc := 21) (i := 2) dX11_placeFor_21 rfl 3 rfl ?_
      refine r_iconst (pc := 22) (v := (-1)) dX11_placeFor_22 (by decide +kernel) ?_
      refine r_icmp_ne (pc := 23) (tgt := 37) dX11_placeFor_23 (by decide) rfl wl_m1 (fun c_7 => ?_) (fun c_7 => ?_)
      · replace h := (if_neg c_7).symm.trans h
        refine r_iload_n (pc := 37) (i := 2) dX11_placeFor_37 rfl 3 rfl ?_
        refine r_if_lt (pc := 38) (tgt := 50) dX11_placeFor_38 (by decide) rfl (fun c_8 => ?_) (fun c_8 => ?_)
        · replace h := (if_pos c_8).symm.trans h
          refine r_iconst (pc := 50) (v := (-1)) dX11_placeFor_50 (by decide +kernel) ?_
          cases h
          exact r_iret (pc := 51) rfl rfl (Nat.le_refl 0) (Nat.le_refl 0) dX11_placeFor_51
        · replace h := (if_neg c_8).symm.trans h
          refine r_iload_n (pc := 41) (i := 2) dX11_placeFor_41 rfl 3 rfl ?_
          refine r_iload_n (pc := 42) (i := 3) dX11_placeFor_42 rfl 0 rfl ?_
          refine r_icmp_ge (pc := 43) (tgt := 50) dX11_placeFor_43 (by decide) rfl rfl (fun c_9 => ?_) (fun c_9 => ?_)
          · replace h := (if_pos c_9).symm.trans h
            refine r_iconst (pc := 50) (v := (-1)) dX11_placeFor_50 (by decide +kernel) ?_
            cases h
            exact r_iret (pc := 51) rfl rfl (Nat.le_refl 0) (Nat.le_refl 0) dX11_placeFor_51
          · replace h := (if_neg c_9).symm.trans h
            refine r_iload_n (pc := 46) (i := 2) dX11_placeFor_46 rfl 3 rfl ?_
            refine r_goto (pc := 47) (tgt := 51) dX11_placeFor_47 (by decide) ?_
            cases h
            exact r_iret (pc := 51) rfl rfl (Nat.le_refl 0) (Nat.le_refl 0) dX11_placeFor_51
      · replace h := (if_pos c_7).symm.trans h
        refine r_iload_n (pc := 26) (i := 3) dX11_placeFor_26 rfl 0 rfl ?_
        refine r_iconst (pc := 27) (v := 2) dX11_placeFor_27 (by decide +kernel) ?_
        refine r_icmp_ge (pc := 28) (tgt := 35) dX11_placeFor_28 (by decide) rfl wl_2 (fun c_10 => ?_) (fun c_10 => ?_)
        · replace h := (if_pos c_10).symm.trans h
          refine r_iconst (pc := 35) (v := (-1)) dX11_placeFor_35 (by decide +kernel) ?_
          cases h
          exact r_iret (pc := 36) rfl rfl (Nat.le_refl 0) (Nat.le_refl 0) dX11_placeFor_36
        · replace h := (if_neg c_10).symm.trans h
          refine r_iload_n (pc := 31) (i := 3) dX11_placeFor_31 rfl 0 rfl ?_
          refine r_goto (pc := 32) (tgt := 36) dX11_placeFor_32 (by decide) ?_
          cases h
          exact r_iret (pc := 36) rfl rfl (Nat.le_refl 0) (Nat.le_refl 0) dX11_placeFor_36
    · replace h := (if_neg c_2).symm.trans h
      refine r_iconst (pc := 9) (v := (-1)) dX11_placeFor_9 (by decide +kernel) ?_
      cases h
      exact r_iret (pc := 10) rfl rfl (Nat.le_refl 0) (Nat.le_refl 0) dX11_placeFor_10
theorem kX11_placeFor {G : GG} (a0 : Nat) (x1 : Int) (x2 : Int) (M : MM) {res : Int} (oa0 : OB L0 a0 11) (h : sX11_placeFor a0 x1 x2 M = some res) : CO G xX11_placeFor [.ref (gA G a0), .int (eI x1), .int (eI x2)] L0 M (some (.int (eI res))) L0 M := CO_of (by decide +kernel) (Nat.le_of_ble_eq_true rfl) (bX11_placeFor_b0 a0 x1 x2 M oa0 h)
abbrev xX11_keepDraft : XX := (yX11_keepDraft, cX11_keepDraft, 3, none, 3, 68, 0, 0)
theorem ck_X11_keepDraft_332 : CKV xX11_keepDraft 332 xX5_copy 1 := ⟨⟨tb_i 835 (by decide +kernel) (by decide +kernel), tb_i 141 (by decide +kernel) (by decide +kernel), tb_i 838 (by decide +kernel) (by decide +kernel), ⟨by decide +kernel, by decide +kernel, by decide +kernel⟩, by decide, by decide⟩, tb_i 836 (by decide +kernel) (by decide +kernel), tb_i 837 (by decide +kernel) (by decide +kernel)⟩
theorem ck_X11_keepDraft_341 : CKV xX11_keepDraft 341 xX3_copy 1 := ⟨⟨tb_i 842 (by decide +kernel) (by decide +kernel), tb_i 142 (by decide +kernel) (by decide +kernel), tb_i 845 (by decide +kernel) (by decide +kernel), ⟨by decide +kernel, by decide +kernel, by decide +kernel⟩, by decide, by decide⟩, tb_i 843 (by decide +kernel) (by decide +kernel), tb_i 844 (by decide +kernel) (by decide +kernel)⟩
theorem ck_X11_keepDraft_351 : CKV xX11_keepDraft 351 xX1_copy 1 := ⟨⟨tb_i 847 (by decide +kernel) (by decide +kernel), tb_i 144 (by decide +kernel) (by decide +kernel), tb_i 850 (by decide +kernel) (by decide +kernel), ⟨by decide +kernel, by decide +kernel, by decide +kernel⟩, by decide, by decide⟩, tb_i 848 (by decide +kernel) (by decide +kernel), tb_i 849 (by decide +kernel) (by decide +kernel)⟩
theorem ck_X11_keepDraft_368 : CKV xX11_keepDraft 368 xX8_copy 1 := ⟨⟨tb_i 853 (by decide +kernel) (by decide +kernel), tb_i 145 (by decide +kernel) (by decide +kernel), tb_i 856 (by decide +kernel) (by decide +kernel), ⟨by decide +kernel, by decide +kernel, by decide +kernel⟩, by decide, by decide⟩, tb_i 854 (by decide +kernel) (by decide +kernel), tb_i 855 (by decide +kernel) (by decide +kernel)⟩
def sX11_keepDraft_b139 (a0 : Nat) (x1 : Int) (x2 : Int)   (M : MM) : Option MM := (if 0 ≤ wI x1 ∧ wI x1 < 5 then (if wI x2 = wI (M (gR (gR a0 0) 4) (wI x1).toNat) then (if 0 ≤ wI x1 ∧ wI x1 < 5 then (if 0 ≤ wI x1 ∧ wI x1 < 5 then ((some (mU M (gR (gR a0 0) 4) (wI x1).toNat ((M (gR (gR a0 0) 4) (wI x1).toNat) + 1))).bind fun M_9 => (some (M_9))) else none) else none) else (some (M))) else none)
def sX11_keepDraft_b0 (a0 : Nat) (x1 : Int) (x2 : Int)   (M : MM) : Option MM := (if wI x1 = 0 then (if 0 ≤ wI x2 ∧ wI x2 < 2 then ((sX5_copy (gR (gR (gR a0 0) 5) (wI x2).toNat) (gR (gR a0 3) 0) M).bind fun q_8 => (sX11_keepDraft_b139 a0 x1 x2 q_8)) else none) else (if wI x1 = 1 then (if 0 ≤ wI x2 ∧ wI x2 < 2 then ((sX3_copy (gR (gR (gR a0 0) 6) (wI x2).toNat) (gR (gR a0 3) 1) M).bind fun q_16 => (sX11_keepDraft_b139 a0 x1 x2 q_16)) else none) else (if wI x1 = 2 then (if 0 ≤ wI x2 ∧ wI x2 < 2 then ((sX1_copy (gR (gR (gR a0 0) 7) (wI x2).toNat) (gR (gR a0 3) 2) M).bind fun q_24 => (sX11_keepDraft_b139 a0 x1 x2 q_24)) else none) else (if wI x1 = 3 then (if 0 ≤ wI x2 ∧ wI x2 < 2 then ((sX3_copy (gR (gR (gR a0 0) 8) (wI x2).toNat) (gR (gR a0 3) 3) M).bind fun q_32 => (sX11_keepDraft_b139 a0 x1 x2 q_32)) else none) else (if 0 ≤ wI x2 ∧ wI x2 < 2 then ((sX8_copy (gR (gR (gR a0 0) 9) (wI x2).toNat) (gR (gR a0 3) 4) M).bind fun q_39 => (sX11_keepDraft_b139 a0 x1 x2 q_39)) else none)))))
def sX11_keepDraft (a0 : Nat) (x1 : Int) (x2 : Int) (M : MM) : Option MM := sX11_keepDraft_b0 a0 x1 x2 M
set_option maxHeartbeats 4000000 in
set_option maxRecDepth 100000 in
theorem bX11_keepDraft_b139 {G : GG} (a0 : Nat) (x1 : Int) (x2 : Int) (oa0 : OB L0 a0 11)  (M : MM) {res : MM}  (h : sX11_keepDraft_b139 a0 x1 x2 M = some res) : VV G xX11_keepDraft (ZM G xX11_keepDraft (none) L0 res) L0 M 0 0 139 [(0, .ref (gA G a0)), (1, .int (eI x1)), (2, .int (eI x2))] [] := by
  unfold sX11_keepDraft_b139 at h
  refine r_iload_n (pc := 139) (i := 2) dX11_keepDraft_139 rfl 2 rfl ?_
  refine r_aload_n (pc := 140) (i := 0) dX11_keepDraft_140 rfl 0 rfl ?_
  have o_1 := (wt_11_0 oa0).2
  refine r_getR (pc := 141) fg_11_10 rfl oa0 (wt_11_0 oa0).1 dX11_keepDraft_141 ?_
  have o_2 := (wt_9_4 o_1).2
  refine r_getR (pc := 144) fg_11_317 rfl o_1 (wt_9_4 o_1).1 dX11_keepDraft_144 ?_
  refine r_iload_n (pc := 147) (i := 1) dX11_keepDraft_147 rfl 1 rfl ?_
  obtain ⟨c_3, h⟩ := og h
  refine r_iald (pc := 148) o_2 rfl c_3 rfl dX11_keepDraft_148 ?_
  refine r_icmp_ne (pc := 149) (tgt := 165) dX11_keepDraft_149 (by decide) rfl rfl (fun c_4 => ?_) (fun c_4 => ?_)
  · replace h := (if_neg c_4).symm.trans h
    cases h
    exact r_vret (pc := 165) rfl (Nat.le_refl 0) (Nat.le_refl 0) dX11_keepDraft_165
  · replace h := (if_pos c_4).symm.trans h
    refine r_aload_n (pc := 152) (i := 0) dX11_keepDraft_152 rfl 0 rfl ?_
    have o_5 := (wt_11_0 oa0).2
    refine r_getR (pc := 153) fg_11_10 rfl oa0 (wt_11_0 oa0).1 dX11_keepDraft_153 ?_
    have o_6 := (wt_9_4 o_5).2
    refine r_getR (pc := 156) fg_11_317 rfl o_5 (wt_9_4 o_5).1 dX11_keepDraft_156 ?_
    refine r_iload_n (pc := 159) (i := 1) dX11_keepDraft_159 rfl 1 rfl ?_
    refine r_dup2 (pc := 160) dX11_keepDraft_160 rfl rfl ?_
    obtain ⟨c_7, h⟩ := og h
    refine r_iald (pc := 161) o_6 rfl c_7 rfl dX11_keepDraft_161 ?_
    refine r_iconst (pc := 162) (v := 1) dX11_keepDraft_162 (by decide +kernel) ?_
    refine r_iadd (pc := 163) dX11_keepDraft_163 ?_
    obtain ⟨c_8, h⟩ := og h
    obtain ⟨M_9, hM_9, h⟩ := ob h
    refine r_iast (pc := 164) o_6 rfl c_8 rfl hM_9 dX11_keepDraft_164 ?_
    cases h
    exact r_vret (pc := 165) rfl (Nat.le_refl 0) (Nat.le_refl 0) dX11_keepDraft_165
set_option maxHeartbeats 4000000 in
set_option maxRecDepth 100000 in
theorem bX11_keepDraft_b0 {G : GG} (a0 : Nat) (x1 : Int) (x2 : Int) (oa0 : OB L0 a0 11)  (M : MM) {res : MM}  (h : sX11_keepDraft_b0 a0 x1 x2 M = some res) : VV G xX11_keepDraft (ZM G xX11_keepDraft (none) L0 res) L0 M 0 0 0 [(0, .ref (gA G a0)), (1, .int (eI x1)), (2, .int (eI x2))] [] := by
  unfold sX11_keepDraft_b0 at h
  refine r_iload_n (pc := 0) (i := 1) dX11_keepDraft_0 rfl 1 rfl ?_
  by_cases c_1 : wI x1 = 0
  · replace h := (if_pos c_1).symm.trans h
    refine r_tsw (pc := 1) (tgt := 32) (k' := 0) (rfl.trans c_1) dX11_keepDraft_1 (by decide) rfl (by decide) ?_
    refine r_aload_n (pc := 32) (i := 0) dX11_keepDraft_32 rfl 0 rfl ?_
    have o_2 := (wt_11_0 oa0).2
    refine r_getR (pc := 33) fg_11_10 rfl oa0 (wt_11_0 oa0).1 dX11_keepDraft_33 ?_
    have o_3 := (wt_9_5 o_2).2
    refine r_getR (pc := 36) fg_11_324 rfl o_2 (wt_9_5 o_2).1 dX11_keepDraft_36 ?_
    refine r_iload_n (pc := 39) (i := 2) dX11_keepDraft_39 rfl 2 rfl ?_
    obtain ⟨c_4, h⟩ := og h
    have o_5 := (wa_7 o_3 c_4).2
    refine r_aald7 (pc := 40) o_3 rfl c_4 rfl (wa_7 o_3 c_4).1 dX11_keepDraft_40 ?_
    refine r_aload_n (pc := 41) (i := 0) dX11_keepDraft_41 rfl 0 rfl ?_
    have o_6 := (wt_11_3 oa0).2
    refine r_getR (pc := 42) fg_11_27 rfl oa0 (wt_11_3 oa0).1 dX11_keepDraft_42 ?_
    have o_7 := (wt_7_0 o_6).2
    refine r_getR (pc := 45) fg_11_328 rfl o_6 (wt_7_0 o_6).1 dX11_keepDraft_45 ?_
    obtain ⟨q_8, hq_8, h⟩ := ob h
    refine r_cV (pc := 48) (Y := xX5_copy) (As := [.ref (gA G (gR (gR a0 3) 0))]) (rest := []) (v := none) (st1 := []) ck_X11_keepDraft_332 (kX5_copy (gR (gR (gR a0 0) 5) (wI x2).toNat) (gR (gR a0 3) 0) M o_5 o_7 hq_8) o_5 rfl rfl rfl rfl (Nat.le_of_ble_eq_true rfl) ⟨rfl, rfl⟩ rfl dX11_keepDraft_48 ?_
    refine r_goto (pc := 51) (tgt := 139) dX11_keepDraft_51 (by decide) ?_
    refine r_sub (lv' := [(0, .ref (gA G a0)), (1, .int (eI x1)), (2, .int (eI x2))]) [0, 1, 2] rfl ?_
    exact bX11_keepDraft_b139 a0 x1 x2 oa0 _ h
  · replace h := (if_neg c_1).symm.trans h
    by_cases c_9 : wI x1 = 1
    · replace h := (if_pos c_9).symm.trans h
      refine r_tsw (pc := 1) (tgt := 54) (k' := 1) (rfl.trans c_9) dX11_keepDraft_1 (by decide) rfl (by decide) ?_
      refine r_aload_n (pc := 54) (i := 0) dX11_keepDraft_54 rfl 0 rfl ?_
      have o_10 := (wt_11_0 oa0).2
      refine r_getR (pc := 55) fg_11_10 rfl oa0 (wt_11_0 oa0).1 dX11_keepDraft_55 ?_
      have o_11 := (wt_9_6 o_10).2
      refine r_getR (pc := 58) fg_11_334 rfl o_10 (wt_9_6 o_10).1 dX11_keepDraft_58 ?_
      refine r_iload_n (pc := 61) (i := 2) dX11_keepDraft_61 rfl 2 rfl ?_
      obtain ⟨c_12, h⟩ := og h
      have o_13 := (wa_6 o_11 c_12).2
      refine r_aald6 (pc := 62) o_11 rfl c_12 rfl (wa_6 o_11 c_12).1 dX11_keepDraft_62 ?_
      refine r_aload_n (pc := 63) (i := 0) dX11_keepDraft_63 rfl 0 rfl ?_
      have o_14 := (wt_11_3 oa0).2
      refine r_getR (pc := 64) fg_11_27 rfl oa0 (wt_11_3 oa0).1 dX11_keepDraft_64 ?_
      have o_15 := (wt_7_1 o_14).2
      refine r_getR (pc := 67) fg_11_338 rfl o_14 (wt_7_1 o_14).1 dX11_keepDraft_67 ?_
      obtain ⟨q_16, hq_16, h⟩ := ob h
      refine r_cV (pc := 70) (Y := xX3_copy) (As := [.ref (gA G (gR (gR a0 3) 1))]) (rest := []) (v := none) (st1 := []) ck_X11_keepDraft_341 (kX3_copy (gR (gR (gR a0 0) 6) (wI x2).toNat) (gR (gR a0 3) 1) M o_13 o_15 hq_16) o_13 rfl rfl rfl rfl (Nat.le_of_ble_eq_true rfl) ⟨rfl, rfl⟩ rfl dX11_keepDraft_70 ?_
      refine r_goto (pc := 73) (tgt := 139) dX11_keepDraft_73 (by decide) ?_
      refine r_sub (lv' := [(0, .ref (gA G a0)), (1, .int (eI x1)), (2, .int (eI x2))]) [0, 1, 2] rfl ?_
      exact bX11_keepDraft_b139 a0 x1 x2 oa0 _ h
    · replace h := (if_neg c_9).symm.trans h
      by_cases c_17 : wI x1 = 2
      · replace h := (if_pos c_17).symm.trans h
        refine r_tsw (pc := 1) (tgt := 76) (k' := 2) (rfl.trans c_17) dX11_keepDraft_1 (by decide) rfl (by decide) ?_
        refine r_aload_n (pc := 76) (i := 0) dX11_keepDraft_76 rfl 0 rfl ?_
        have o_18 := (wt_11_0 oa0).2
        refine r_getR (pc := 77) fg_11_10 rfl oa0 (wt_11_0 oa0).1 dX11_keepDraft_77 ?_
        have o_19 := (wt_9_7 o_18).2
        refine r_getR (pc := 80) fg_11_344 rfl o_18 (wt_9_7 o_18).1 dX11_keepDraft_80 ?_
        refine r_iload_n (pc := 83) (i := 2) dX11_keepDraft_83 rfl 2 rfl ?_
        obtain ⟨c_20, h⟩ := og h
        have o_21 := (wa_5 o_19 c_20).2
        refine r_aald5 (pc := 84) o_19 rfl c_20 rfl (wa_5 o_19 c_20).1 dX11_keepDraft_84 ?_
        refine r_aload_n (pc := 85) (i := 0) dX11_keepDraft_85 rfl 0 rfl ?_
        have o_22 := (wt_11_3 oa0).2
        refine r_getR (pc := 86) fg_11_27 rfl oa0 (wt_11_3 oa0).1 dX11_keepDraft_86 ?_
        have o_23 := (wt_7_2 o_22).2
        refine r_getR (pc := 89) fg_11_348 rfl o_22 (wt_7_2 o_22).1 dX11_keepDraft_89 ?_
        obtain ⟨q_24, hq_24, h⟩ := ob h
        refine r_cV (pc := 92) (Y := xX1_copy) (As := [.ref (gA G (gR (gR a0 3) 2))]) (rest := []) (v := none) (st1 := []) ck_X11_keepDraft_351 (kX1_copy (gR (gR (gR a0 0) 7) (wI x2).toNat) (gR (gR a0 3) 2) M o_21 o_23 hq_24) o_21 rfl rfl rfl rfl (Nat.le_of_ble_eq_true rfl) ⟨rfl, rfl⟩ rfl dX11_keepDraft_92 ?_
        refine r_goto (pc := 95) (tgt := 139) dX11_keepDraft_95 (by decide) ?_
        refine r_sub (lv' := [(0, .ref (gA G a0)), (1, .int (eI x1)), (2, .int (eI x2))]) [0, 1, 2] rfl ?_
        exact bX11_keepDraft_b139 a0 x1 x2 oa0 _ h
      · replace h := (if_neg c_17).symm.trans h
        by_cases c_25 : wI x1 = 3
        · replace h := (if_pos c_25).symm.trans h
          refine r_tsw (pc := 1) (tgt := 98) (k' := 3) (rfl.trans c_25) dX11_keepDraft_1 (by decide) rfl (by decide) ?_
          refine r_aload_n (pc := 98) (i := 0) dX11_keepDraft_98 rfl 0 rfl ?_
          have o_26 := (wt_11_0 oa0).2
          refine r_getR (pc := 99) fg_11_10 rfl oa0 (wt_11_0 oa0).1 dX11_keepDraft_99 ?_
          have o_27 := (wt_9_8 o_26).2
          refine r_getR (pc := 102) fg_11_354 rfl o_26 (wt_9_8 o_26).1 dX11_keepDraft_102 ?_
          refine r_iload_n (pc := 105) (i := 2) dX11_keepDraft_105 rfl 2 rfl ?_
          obtain ⟨c_28, h⟩ := og h
          have o_29 := (wa_6 o_27 c_28).2
          refine r_aald6 (pc := 106) o_27 rfl c_28 rfl (wa_6 o_27 c_28).1 dX11_keepDraft_106 ?_
          refine r_aload_n (pc := 107) (i := 0) dX11_keepDraft_107 rfl 0 rfl ?_
          have o_30 := (wt_11_3 oa0).2
          refine r_getR (pc := 108) fg_11_27 rfl oa0 (wt_11_3 oa0).1 dX11_keepDraft_108 ?_
          have o_31 := (wt_7_3 o_30).2
          refine r_getR (pc := 111) fg_11_357 rfl o_30 (wt_7_3 o_30).1 dX11_keepDraft_111 ?_
          obtain ⟨q_32, hq_32, h⟩ := ob h
          refine r_cV (pc := 114) (Y := xX3_copy) (As := [.ref (gA G (gR (gR a0 3) 3))]) (rest := []) (v := none) (st1 := []) ck_X11_keepDraft_341 (kX3_copy (gR (gR (gR a0 0) 8) (wI x2).toNat) (gR (gR a0 3) 3) M o_29 o_31 hq_32) o_29 rfl rfl rfl rfl (Nat.le_of_ble_eq_true rfl) ⟨rfl, rfl⟩ rfl dX11_keepDraft_114 ?_
          refine r_goto (pc := 117) (tgt := 139) dX11_keepDraft_117 (by decide) ?_
          refine r_sub (lv' := [(0, .ref (gA G a0)), (1, .int (eI x1)), (2, .int (eI x2))]) [0, 1, 2] rfl ?_
          exact bX11_keepDraft_b139 a0 x1 x2 oa0 _ h
        · replace h := (if_neg c_25).symm.trans h
          refine r_tswD (pc := 1) (tgt := 120) rfl dX11_keepDraft_1 (by omega) (by decide) ?_
          refine r_aload_n (pc := 120) (i := 0) dX11_keepDraft_120 rfl 0 rfl ?_
          have o_33 := (wt_11_0 oa0).2
          refine r_getR (pc := 121) fg_11_10 rfl oa0 (wt_11_0 oa0).1 dX11_keepDraft_121 ?_
          have o_34 := (wt_9_9 o_33).2
          refine r_getR (pc := 124) fg_11_360 rfl o_33 (wt_9_9 o_33).1 dX11_keepDraft_124 ?_
          refine r_iload_n (pc := 127) (i := 2) dX11_keepDraft_127 rfl 2 rfl ?_
          obtain ⟨c_35, h⟩ := og h
          have o_36 := (wa_8 o_34 c_35).2
          refine r_aald8 (pc := 128) o_34 rfl c_35 rfl (wa_8 o_34 c_35).1 dX11_keepDraft_128 ?_
          refine r_aload_n (pc := 129) (i := 0) dX11_keepDraft_129 rfl 0 rfl ?_
          have o_37 := (wt_11_3 oa0).2
          refine r_getR (pc := 130) fg_11_27 rfl oa0 (wt_11_3 oa0).1 dX11_keepDraft_130 ?_
          have o_38 := (wt_7_4 o_37).2
          refine r_getR (pc := 133) fg_11_364 rfl o_37 (wt_7_4 o_37).1 dX11_keepDraft_133 ?_
          obtain ⟨q_39, hq_39, h⟩ := ob h
          refine r_cV (pc := 136) (Y := xX8_copy) (As := [.ref (gA G (gR (gR a0 3) 4))]) (rest := []) (v := none) (st1 := []) ck_X11_keepDraft_368 (kX8_copy (gR (gR (gR a0 0) 9) (wI x2).toNat) (gR (gR a0 3) 4) M o_36 o_38 hq_39) o_36 rfl rfl rfl rfl (Nat.le_of_ble_eq_true rfl) ⟨rfl, rfl⟩ rfl dX11_keepDraft_136 ?_
          refine r_sub (lv' := [(0, .ref (gA G a0)), (1, .int (eI x1)), (2, .int (eI x2))]) [0, 1, 2] rfl ?_
          exact bX11_keepDraft_b139 a0 x1 x2 oa0 _ h
theorem kX11_keepDraft {G : GG} (a0 : Nat) (x1 : Int) (x2 : Int) (M : MM) {res : MM} (oa0 : OB L0 a0 11) (h : sX11_keepDraft a0 x1 x2 M = some res) : CO G xX11_keepDraft [.ref (gA G a0), .int (eI x1), .int (eI x2)] L0 M (none) L0 res := CO_of (by decide +kernel) (Nat.le_of_ble_eq_true rfl) (bX11_keepDraft_b0 a0 x1 x2 oa0 M h)
abbrev xX11_text : XX := (yX11_text, cX11_text, 5, (some .int), 8, 178, 0, 0)
theorem ck_X11_text_74 : CKV xX11_text 74 xX11_placeFor 2 := ⟨⟨tb_i 627 (by decide +kernel) (by decide +kernel), tb_i 139 (by decide +kernel) (by decide +kernel), tb_i 630 (by decide +kernel) (by decide +kernel), ⟨by decide +kernel, by decide +kernel, by decide +kernel⟩, by decide, by decide⟩, tb_i 629 (by decide +kernel) (by decide +kernel), tb_i 0 (by decide +kernel) (by decide +kernel)⟩
theorem ck_X11_text_84 : CKV xX11_text 84 xX7_reads 2 := ⟨⟨tb_i 631 (by decide +kernel) (by decide +kernel), tb_i 146 (by decide +kernel) (by decide +kernel), tb_i 634 (by decide +kernel) (by decide +kernel), ⟨by decide +kernel, by decide +kernel, by decide +kernel⟩, by decide, by decide⟩, tb_i 632 (by decide +kernel) (by decide +kernel), tb_i 633 (by decide +kernel) (by decide +kernel)⟩
theorem ck_X11_text_90 : CKV xX11_text 90 xX11_keepDraft 2 := ⟨⟨tb_i 831 (by decide +kernel) (by decide +kernel), tb_i 139 (by decide +kernel) (by decide +kernel), tb_i 834 (by decide +kernel) (by decide +kernel), ⟨by decide +kernel, by decide +kernel, by decide +kernel⟩, by decide, by decide⟩, tb_i 833 (by decide +kernel) (by decide +kernel), tb_i 12 (by decide +kernel) (by decide +kernel)⟩
def sX11_text_b0 (a0 : Nat) (x1 : Int) (x2 : Int)   (M : MM) : Option (Int × MM) := ((sX11_placeFor a0 x1 x2 M).bind fun q_1 => (if wI q_1 = (-1) then ((some (mU M (gR a0 0) 2 0)).bind fun M_17 => ((some (mU M_17 (gR a0 0) 3 (-1))).bind fun M_19 => ((some (mU M_19 (gR a0 0) 1 0)).bind fun M_21 => (some (((-2), M_21)))))) else ((sX7_reads (gR a0 3) (gR a0 0) x1 M).bind fun q_5 => ((some (mU q_5.2 (gR a0 0) 2 (q_5.2 (gR a0 3) 5))).bind fun M_8 => ((some (mU M_8 (gR a0 0) 3 (M_8 (gR a0 3) 6))).bind fun M_11 => ((some (mU M_11 (gR a0 0) 1 0)).bind fun M_13 => (if wI (q_5.1) = 0 then (some (((-1), M_13))) else ((sX11_keepDraft a0 x1 q_1 M_13).bind fun q_15 => (some ((q_1, q_15)))))))))))
def sX11_text (a0 : Nat) (x1 : Int) (x2 : Int) (M : MM) : Option (Int × MM) := sX11_text_b0 a0 x1 x2 M
set_option maxHeartbeats 4000000 in
set_option maxRecDepth 100000 in
theorem bX11_text_b0 {G : GG} (a0 : Nat) (x1 : Int) (x2 : Int) (oa0 : OB L0 a0 11)  (M : MM) {res : (Int × MM)}  (h : sX11_text_b0 a0 x1 x2 M = some res) : VV G xX11_text (ZM G xX11_text (some (.int (eI res.1))) L0 res.2) L0 M 0 0 0 [(0, .ref (gA G a0)), (1, .int (eI x1)), (2, .int (eI x2))] [] := by
  unfold sX11_text_b0 at h
  refine r_aload_n (pc := 0) (i := 0) dX11_text_0 rfl 0 rfl ?_
  refine r_iload_n (pc := 1) (i := 1) dX11_text_1 rfl 1 rfl ?_
  refine r_iload_n (pc := 2) (i := 2) dX11_text_2 rfl 2 rfl ?_
  obtain ⟨q_1, hq_1, h⟩ := ob h
  refine r_cV (pc := 3) (Y := xX11_placeFor) (As := [.int (eI x1), .int (eI x2)]) (rest := []) (v := (some (.int (eI q_1)))) (st1 := [.int (eI q_1)]) ck_X11_text_74 (kX11_placeFor a0 x1 x2 M oa0 hq_1) oa0 rfl rfl rfl rfl (Nat.le_of_ble_eq_true rfl) ⟨rfl, rfl⟩ rfl dX11_text_3 ?_
  refine r_istore_n (pc := 6) (i := 3) (lv' := [(3, .int (eI q_1)), (0, .ref (gA G a0)), (1, .int (eI x1)), (2, .int (eI x2))]) dX11_text_6 rfl (Nat.le_of_ble_eq_true rfl) rfl ?_
  refine r_iload_n (pc := 7) (i := 3) dX11_text_7 rfl 0 rfl ?_
  refine r_iconst (pc := 8) (v := (-1)) dX11_text_8 (by decide +kernel) ?_
  refine r_icmp_ne (pc := 9) (tgt := 39) dX11_text_9 (by decide) rfl wl_m1 (fun c_2 => ?_) (fun c_2 => ?_)
  · replace h := (if_neg c_2).symm.trans h
    refine r_aload_n (pc := 39) (i := 0) dX11_text_39 rfl 1 rfl ?_
    have o_3 := (wt_11_3 oa0).2
    refine r_getR (pc := 40) fg_11_27 rfl oa0 (wt_11_3 oa0).1 dX11_text_40 ?_
    refine r_aload_n (pc := 43) (i := 0) dX11_text_43 rfl 1 rfl ?_
    have o_4 := (wt_11_0 oa0).2
    refine r_getR (pc := 44) fg_11_10 rfl oa0 (wt_11_0 oa0).1 dX11_text_44 ?_
    refine r_iload_n (pc := 47) (i := 1) dX11_text_47 rfl 2 rfl ?_
    obtain ⟨q_5, hq_5, h⟩ := ob h
    refine r_cV (pc := 48) (Y := xX7_reads) (As := [.ref (gA G (gR a0 0)), .int (eI x1)]) (rest := []) (v := (some (.int (eI (q_5.1))))) (st1 := [.int (eI (q_5.1))]) ck_X11_text_84 (kX7_reads (gR a0 3) (gR a0 0) x1 M o_3 o_4 hq_5) o_3 rfl rfl rfl rfl (Nat.le_of_ble_eq_true rfl) ⟨rfl, rfl⟩ rfl dX11_text_48 ?_
    refine r_istore (pc := 51) (lv' := [(4, .int (eI (q_5.1))), (3, .int (eI q_1)), (0, .ref (gA G a0)), (1, .int (eI x1)), (2, .int (eI x2))]) dX11_text_51 (Nat.le_of_ble_eq_true rfl) rfl ?_
    refine r_aload_n (pc := 53) (i := 0) dX11_text_53 rfl 2 rfl ?_
    have o_6 := (wt_11_0 oa0).2
    refine r_getR (pc := 54) fg_11_10 rfl oa0 (wt_11_0 oa0).1 dX11_text_54 ?_
    refine r_aload_n (pc := 57) (i := 0) dX11_text_57 rfl 2 rfl ?_
    have o_7 := (wt_11_3 oa0).2
    refine r_getR (pc := 58) fg_11_27 rfl oa0 (wt_11_3 oa0).1 dX11_text_58 ?_
    refine r_getI (pc := 61) fg_11_88 rfl o_7 dX11_text_61 ?_
    obtain ⟨M_8, hM_8, h⟩ := ob h
    refine r_putI (pc := 64) fg_11_78 rfl o_6 hM_8 rfl rfl dX11_text_64 ?_
    refine r_aload_n (pc := 67) (i := 0) dX11_text_67 rfl 2 rfl ?_
    have o_9 := (wt_11_0 oa0).2
    refine r_getR (pc := 68) fg_11_10 rfl oa0 (wt_11_0 oa0).1 dX11_text_68 ?_
    refine r_aload_n (pc := 71) (i := 0) dX11_text_71 rfl 2 rfl ?_
    have o_10 := (wt_11_3 oa0).2
    refine r_getR (pc := 72) fg_11_27 rfl oa0 (wt_11_3 oa0).1 dX11_text_72 ?_
    refine r_getI (pc := 75) fg_11_89 rfl o_10 dX11_text_75 ?_
    obtain ⟨M_11, hM_11, h⟩ := ob h
    refine r_putI (pc := 78) fg_11_81 rfl o_9 hM_11 rfl rfl dX11_text_78 ?_
    refine r_aload_n (pc := 81) (i := 0) dX11_text_81 rfl 2 rfl ?_
    have o_12 := (wt_11_0 oa0).2
    refine r_getR (pc := 82) fg_11_10 rfl oa0 (wt_11_0 oa0).1 dX11_text_82 ?_
    refine r_iconst (pc := 85) (v := 0) dX11_text_85 (by decide +kernel) ?_
    obtain ⟨M_13, hM_13, h⟩ := ob h
    refine r_putI (pc := 86) fg_11_66 rfl o_12 hM_13 rfl rfl dX11_text_86 ?_
    refine r_iload (pc := 89) dX11_text_89 0 rfl ?_
    refine r_if_ne (pc := 91) (tgt := 96) dX11_text_91 (by decide) rfl (fun c_14 => ?_) (fun c_14 => ?_)
    · replace h := (if_neg c_14).symm.trans h
      refine r_aload_n (pc := 96) (i := 0) dX11_text_96 rfl 2 rfl ?_
      refine r_iload_n (pc := 97) (i := 1) dX11_text_97 rfl 3 rfl ?_
      refine r_iload_n (pc := 98) (i := 3) dX11_text_98 rfl 1 rfl ?_
      obtain ⟨q_15, hq_15, h⟩ := ob h
      refine r_cV (pc := 99) (Y := xX11_keepDraft) (As := [.int (eI x1), .int (eI q_1)]) (rest := []) (v := none) (st1 := []) ck_X11_text_90 (kX11_keepDraft a0 x1 q_1 M_13 oa0 hq_15) oa0 rfl rfl rfl rfl (Nat.le_of_ble_eq_true rfl) ⟨rfl, rfl⟩ rfl dX11_text_99 ?_
      refine r_iload_n (pc := 102) (i := 3) dX11_text_102 rfl 1 rfl ?_
      cases h
      exact r_iret (pc := 103) rfl rfl (Nat.le_refl 0) (Nat.le_refl 0) dX11_text_103
    · replace h := (if_pos c_14).symm.trans h
      refine r_iconst (pc := 94) (v := (-1)) dX11_text_94 (by decide +kernel) ?_
      cases h
      exact r_iret (pc := 95) rfl rfl (Nat.le_refl 0) (Nat.le_refl 0) dX11_text_95
  · replace h := (if_pos c_2).symm.trans h
    refine r_aload_n (pc := 12) (i := 0) dX11_text_12 rfl 1 rfl ?_
    have o_16 := (wt_11_0 oa0).2
    refine r_getR (pc := 13) fg_11_10 rfl oa0 (wt_11_0 oa0).1 dX11_text_13 ?_
    refine r_iconst (pc := 16) (v := 0) dX11_text_16 (by decide +kernel) ?_
    obtain ⟨M_17, hM_17, h⟩ := ob h
    refine r_putI (pc := 17) fg_11_78 rfl o_16 hM_17 rfl rfl dX11_text_17 ?_
    refine r_aload_n (pc := 20) (i := 0) dX11_text_20 rfl 1 rfl ?_
    have o_18 := (wt_11_0 oa0).2
    refine r_getR (pc := 21) fg_11_10 rfl oa0 (wt_11_0 oa0).1 dX11_text_21 ?_
    refine r_iconst (pc := 24) (v := (-1)) dX11_text_24 (by decide +kernel) ?_
    obtain ⟨M_19, hM_19, h⟩ := ob h
    refine r_putI (pc := 25) fg_11_81 rfl o_18 hM_19 rfl rfl dX11_text_25 ?_
    refine r_aload_n (pc := 28) (i := 0) dX11_text_28 rfl 1 rfl ?_
    have o_20 := (wt_11_0 oa0).2
    refine r_getR (pc := 29) fg_11_10 rfl oa0 (wt_11_0 oa0).1 dX11_text_29 ?_
    refine r_iconst (pc := 32) (v := 0) dX11_text_32 (by decide +kernel) ?_
    obtain ⟨M_21, hM_21, h⟩ := ob h
    refine r_putI (pc := 33) fg_11_66 rfl o_20 hM_21 rfl rfl dX11_text_33 ?_
    refine r_bipush (pc := 36) (v := (-2)) dX11_text_36 (by decide +kernel) ?_
    cases h
    exact r_iret (pc := 38) rfl rfl (Nat.le_refl 0) (Nat.le_refl 0) dX11_text_38
theorem kX11_text {G : GG} (a0 : Nat) (x1 : Int) (x2 : Int) (M : MM) {res : (Int × MM)} (oa0 : OB L0 a0 11) (h : sX11_text a0 x1 x2 M = some res) : CO G xX11_text [.ref (gA G a0), .int (eI x1), .int (eI x2)] L0 M (some (.int (eI res.1))) L0 res.2 := CO_of (by decide +kernel) (Nat.le_of_ble_eq_true rfl) (bX11_text_b0 a0 x1 x2 oa0 M h)
abbrev xX11_fault : XX := (yX11_fault, cX11_fault, 2, (some .int), 0, 0, 0, 0)
def sX11_fault_b0 (a0 : Nat) (x1 : Int) (M : MM)   : Int := (if wI x1 = 0 then (M (gR a0 0) 2) else (if wI x1 = 1 then (M (gR a0 0) 3) else (-1)))
def sX11_fault (a0 : Nat) (x1 : Int) (M : MM) : Int := sX11_fault_b0 a0 x1 M
set_option maxHeartbeats 4000000 in
set_option maxRecDepth 100000 in
theorem bX11_fault_b0 {G : GG} (a0 : Nat) (x1 : Int) (M : MM) (oa0 : OB L0 a0 11)  {res : Int}  (h : sX11_fault_b0 a0 x1 M = res) : VV G xX11_fault (ZM G xX11_fault (some (.int (eI res))) L0 M) L0 M 0 0 0 [(0, .ref (gA G a0)), (1, .int (eI x1))] [] := by
  unfold sX11_fault_b0 at h
  refine r_iload_n (pc := 0) (i := 1) dX11_fault_0 rfl 1 rfl ?_
  refine r_if_ne (pc := 1) (tgt := 12) dX11_fault_1 (by decide) rfl (fun c_1 => ?_) (fun c_1 => ?_)
  · replace h := (if_neg c_1).symm.trans h
    refine r_iload_n (pc := 12) (i := 1) dX11_fault_12 rfl 1 rfl ?_
    refine r_iconst (pc := 13) (v := 1) dX11_fault_13 (by decide +kernel) ?_
    refine r_icmp_ne (pc := 14) (tgt := 27) dX11_fault_14 (by decide) rfl wl_1 (fun c_2 => ?_) (fun c_2 => ?_)
    · replace h := (if_neg c_2).symm.trans h
      refine r_iconst (pc := 27) (v := (-1)) dX11_fault_27 (by decide +kernel) ?_
      cases h
      exact r_iret (pc := 28) rfl rfl (Nat.le_refl 0) (Nat.le_refl 0) dX11_fault_28
    · replace h := (if_pos c_2).symm.trans h
      refine r_aload_n (pc := 17) (i := 0) dX11_fault_17 rfl 0 rfl ?_
      have o_3 := (wt_11_0 oa0).2
      refine r_getR (pc := 18) fg_11_10 rfl oa0 (wt_11_0 oa0).1 dX11_fault_18 ?_
      refine r_getI (pc := 21) fg_11_81 rfl o_3 dX11_fault_21 ?_
      refine r_goto (pc := 24) (tgt := 28) dX11_fault_24 (by decide) ?_
      cases h
      exact r_iret (pc := 28) rfl rfl (Nat.le_refl 0) (Nat.le_refl 0) dX11_fault_28
  · replace h := (if_pos c_1).symm.trans h
    refine r_aload_n (pc := 4) (i := 0) dX11_fault_4 rfl 0 rfl ?_
    have o_4 := (wt_11_0 oa0).2
    refine r_getR (pc := 5) fg_11_10 rfl oa0 (wt_11_0 oa0).1 dX11_fault_5 ?_
    refine r_getI (pc := 8) fg_11_78 rfl o_4 dX11_fault_8 ?_
    cases h
    exact r_iret (pc := 11) rfl rfl (Nat.le_refl 0) (Nat.le_refl 0) dX11_fault_11
theorem kX11_fault {G : GG} (a0 : Nat) (x1 : Int) (M : MM) (oa0 : OB L0 a0 11) : CO G xX11_fault [.ref (gA G a0), .int (eI x1)] L0 M (some (.int (eI (sX11_fault a0 x1 M)))) L0 M := CO_of (by decide +kernel) (Nat.le_of_ble_eq_true rfl) (bX11_fault_b0 a0 x1 M oa0 rfl)
abbrev xX11_partyAt : XX := (yX11_partyAt, cX11_partyAt, 2, (some (.object "PaperDonkey$Party")), 0, 0, 0, 0)
def sX11_partyAt_b0 (a0 : Nat) (x1 : Int) (M : MM)   : Option Nat := (if wI x1 < 0 then (some ((0))) else (if wI (M (gR (gR a0 0) 4) 0) ≤ wI x1 then (some ((0))) else (if 0 ≤ wI x1 ∧ wI x1 < 2 then (some (((gR (gR (gR a0 0) 5) (wI x1).toNat) + 1))) else none)))
def sX11_partyAt (a0 : Nat) (x1 : Int) (M : MM) : Option Nat := sX11_partyAt_b0 a0 x1 M
set_option maxHeartbeats 4000000 in
set_option maxRecDepth 100000 in
theorem bX11_partyAt_b0 {G : GG} (a0 : Nat) (x1 : Int) (M : MM) (oa0 : OB L0 a0 11)  {res : Nat}  (h : sX11_partyAt_b0 a0 x1 M = some res) : VV G xX11_partyAt (ZM G xX11_partyAt (some (nV G res)) L0 M) L0 M 0 0 0 [(0, .ref (gA G a0)), (1, .int (eI x1))] [] := by
  unfold sX11_partyAt_b0 at h
  refine r_iload_n (pc := 0) (i := 1) dX11_partyAt_0 rfl 1 rfl ?_
  refine r_if_lt (pc := 1) (tgt := 29) dX11_partyAt_1 (by decide) rfl (fun c_1 => ?_) (fun c_1 => ?_)
  · replace h := (if_pos c_1).symm.trans h
    refine r_null (pc := 29) dX11_partyAt_29 ?_
    refine r_stk (st' := [nV G (0)]) rfl ?_
    cases h
    exact r_aret (pc := 30) rfl (nV_or _) (Nat.le_refl 0) (Nat.le_refl 0) dX11_partyAt_30
  · replace h := (if_neg c_1).symm.trans h
    refine r_iload_n (pc := 4) (i := 1) dX11_partyAt_4 rfl 1 rfl ?_
    refine r_aload_n (pc := 5) (i := 0) dX11_partyAt_5 rfl 0 rfl ?_
    have o_2 := (wt_11_0 oa0).2
    refine r_getR (pc := 6) fg_11_10 rfl oa0 (wt_11_0 oa0).1 dX11_partyAt_6 ?_
    have o_3 := (wt_9_4 o_2).2
    refine r_getR (pc := 9) fg_11_317 rfl o_2 (wt_9_4 o_2).1 dX11_partyAt_9 ?_
    refine r_iconst (pc := 12) (v := 0) dX11_partyAt_12 (by decide +kernel) ?_
    refine r_iald (pc := 13) o_3 wl_0 ⟨by decide, by decide⟩ rfl dX11_partyAt_13 ?_
    refine r_icmp_ge (pc := 14) (tgt := 29) dX11_partyAt_14 (by decide) rfl rfl (fun c_4 => ?_) (fun c_4 => ?_)
    · replace h := (if_pos c_4).symm.trans h
      refine r_null (pc := 29) dX11_partyAt_29 ?_
      refine r_stk (st' := [nV G (0)]) rfl ?_
      cases h
      exact r_aret (pc := 30) rfl (nV_or _) (Nat.le_refl 0) (Nat.le_refl 0) dX11_partyAt_30
    · replace h := (if_neg c_4).symm.trans h
      refine r_aload_n (pc := 17) (i := 0) dX11_partyAt_17 rfl 0 rfl ?_
      have o_5 := (wt_11_0 oa0).2
      refine r_getR (pc := 18) fg_11_10 rfl oa0 (wt_11_0 oa0).1 dX11_partyAt_18 ?_
      have o_6 := (wt_9_5 o_5).2
      refine r_getR (pc := 21) fg_11_324 rfl o_5 (wt_9_5 o_5).1 dX11_partyAt_21 ?_
      refine r_iload_n (pc := 24) (i := 1) dX11_partyAt_24 rfl 1 rfl ?_
      obtain ⟨c_7, h⟩ := og h
      have o_8 := (wa_7 o_6 c_7).2
      refine r_aald7 (pc := 25) o_6 rfl c_7 rfl (wa_7 o_6 c_7).1 dX11_partyAt_25 ?_
      refine r_goto (pc := 26) (tgt := 30) dX11_partyAt_26 (by decide) ?_
      refine r_stk (st' := [nV G ((gR (gR (gR a0 0) 5) (wI x1).toNat) + 1)]) rfl ?_
      cases h
      exact r_aret (pc := 30) rfl (nV_or _) (Nat.le_refl 0) (Nat.le_refl 0) dX11_partyAt_30
theorem kX11_partyAt {G : GG} (a0 : Nat) (x1 : Int) (M : MM) {res : Nat} (oa0 : OB L0 a0 11) (h : sX11_partyAt a0 x1 M = some res) : CO G xX11_partyAt [.ref (gA G a0), .int (eI x1)] L0 M (some (nV G res)) L0 M := CO_of (by decide +kernel) (Nat.le_of_ble_eq_true rfl) (bX11_partyAt_b0 a0 x1 M oa0 h)
theorem nX11_partyAt (a0 : Nat) (x1 : Int) (M : MM) {res : Nat} (oa0 : OB L0 a0 11) (h : sX11_partyAt a0 x1 M = some res) : ∀ m, res = m + 1 → OB L0 m 5 := by
  unfold sX11_partyAt sX11_partyAt_b0 at h
  split at h
  · cases h; exact nf_0
  · split at h
    · cases h; exact nf_0
    · obtain ⟨c, h⟩ := og h
      cases h
      exact nf_s (wa_7 (wt_9_5 (wt_11_0 oa0).2).2 c).2
abbrev xX11_party : XX := (yX11_party, cX11_party, 4, (some .int), 1, 21, 0, 0)
theorem ck_X11_party_94 : CKV xX11_party 94 xX11_partyAt 1 := ⟨⟨tb_i 866 (by decide +kernel) (by decide +kernel), tb_i 139 (by decide +kernel) (by decide +kernel), tb_i 869 (by decide +kernel) (by decide +kernel), ⟨by decide +kernel, by decide +kernel, by decide +kernel⟩, by decide, by decide⟩, tb_i 868 (by decide +kernel) (by decide +kernel), tb_i 13 (by decide +kernel) (by decide +kernel)⟩
theorem ck_X11_party_98 : CKV xX11_party 98 xX5_answer 1 := ⟨⟨tb_i 870 (by decide +kernel) (by decide +kernel), tb_i 141 (by decide +kernel) (by decide +kernel), tb_i 873 (by decide +kernel) (by decide +kernel), ⟨by decide +kernel, by decide +kernel, by decide +kernel⟩, by decide, by decide⟩, tb_i 871 (by decide +kernel) (by decide +kernel), tb_i 872 (by decide +kernel) (by decide +kernel)⟩
def sX11_party_b0 (a0 : Nat) (x1 : Int) (x2 : Int) (M : MM)   : Option Int := ((sX11_partyAt a0 x1 M).bind fun q_1 => (nM q_1 (some ((-1))) fun m_2 => ((sX5_answer m_2 x2 M).bind fun q_3 => (some (q_3)))))
def sX11_party (a0 : Nat) (x1 : Int) (x2 : Int) (M : MM) : Option Int := sX11_party_b0 a0 x1 x2 M
set_option maxHeartbeats 4000000 in
set_option maxRecDepth 100000 in
theorem bX11_party_b0 {G : GG} (a0 : Nat) (x1 : Int) (x2 : Int) (M : MM) (oa0 : OB L0 a0 11)  {res : Int}  (h : sX11_party_b0 a0 x1 x2 M = some res) : VV G xX11_party (ZM G xX11_party (some (.int (eI res))) L0 M) L0 M 0 0 0 [(0, .ref (gA G a0)), (1, .int (eI x1)), (2, .int (eI x2))] [] := by
  unfold sX11_party_b0 at h
  refine r_aload_n (pc := 0) (i := 0) dX11_party_0 rfl 0 rfl ?_
  refine r_iload_n (pc := 1) (i := 1) dX11_party_1 rfl 1 rfl ?_
  obtain ⟨q_1, hq_1, h⟩ := ob h
  refine r_cV (pc := 2) (Y := xX11_partyAt) (As := [.int (eI x1)]) (rest := []) (v := (some (nV G q_1))) (st1 := [nV G q_1]) ck_X11_party_94 (kX11_partyAt a0 x1 M oa0 hq_1) oa0 rfl rfl rfl rfl (Nat.le_of_ble_eq_true rfl) ⟨rfl, rfl⟩ rfl dX11_party_2 ?_
  have oq_1 := nX11_partyAt _ _ _ oa0 hq_1
  rcases q_1 with _ | m_2
  · replace h := nM_z h
    refine r_stk (st' := [.null]) rfl ?_
    refine r_astore_nN (pc := 5) (i := 3) (lv' := [(3, .null), (0, .ref (gA G a0)), (1, .int (eI x1)), (2, .int (eI x2))]) dX11_party_5 rfl (Nat.le_of_ble_eq_true rfl) rfl ?_
    refine r_aload_nN (pc := 6) (i := 3) dX11_party_6 rfl 0 rfl ?_
    refine r_ifnonnullN (pc := 7) dX11_party_7 ?_
    refine r_iconst (pc := 10) (v := (-1)) dX11_party_10 (by decide +kernel) ?_
    refine r_goto (pc := 11) (tgt := 19) dX11_party_11 (by decide) ?_
    cases h
    exact r_iret (pc := 19) rfl rfl (Nat.le_refl 0) (Nat.le_refl 0) dX11_party_19
  · replace h := nM_s h
    have om_2 := oq_1 _ rfl
    refine r_stk (st' := [.ref (gA G m_2)]) rfl ?_
    refine r_astore_n (pc := 5) (i := 3) (lv' := [(3, .ref (gA G m_2)), (0, .ref (gA G a0)), (1, .int (eI x1)), (2, .int (eI x2))]) dX11_party_5 rfl (Nat.le_of_ble_eq_true rfl) rfl ?_
    refine r_aload_n (pc := 6) (i := 3) dX11_party_6 rfl 0 rfl ?_
    refine r_ifnonnullR (pc := 7) (tgt := 14) dX11_party_7 (by decide) ?_
    refine r_aload_n (pc := 14) (i := 3) dX11_party_14 rfl 0 rfl ?_
    refine r_iload_n (pc := 15) (i := 2) dX11_party_15 rfl 3 rfl ?_
    obtain ⟨q_3, hq_3, h⟩ := ob h
    refine r_cV (pc := 16) (Y := xX5_answer) (As := [.int (eI x2)]) (rest := []) (v := (some (.int (eI q_3)))) (st1 := [.int (eI q_3)]) ck_X11_party_98 (kX5_answer m_2 x2 M om_2 hq_3) om_2 rfl rfl rfl rfl (Nat.le_of_ble_eq_true rfl) ⟨rfl, rfl⟩ rfl dX11_party_16 ?_
    cases h
    exact r_iret (pc := 19) rfl rfl (Nat.le_refl 0) (Nat.le_refl 0) dX11_party_19
theorem kX11_party {G : GG} (a0 : Nat) (x1 : Int) (x2 : Int) (M : MM) {res : Int} (oa0 : OB L0 a0 11) (h : sX11_party a0 x1 x2 M = some res) : CO G xX11_party [.ref (gA G a0), .int (eI x1), .int (eI x2)] L0 M (some (.int (eI res))) L0 M := CO_of (by decide +kernel) (Nat.le_of_ble_eq_true rfl) (bX11_party_b0 a0 x1 x2 M oa0 h)
abbrev xX11_child : XX := (yX11_child, cX11_child, 5, (some .int), 3, 65, 0, 0)
theorem ck_X11_child_94 : CKV xX11_child 94 xX11_partyAt 1 := ⟨⟨tb_i 866 (by decide +kernel) (by decide +kernel), tb_i 139 (by decide +kernel) (by decide +kernel), tb_i 869 (by decide +kernel) (by decide +kernel), ⟨by decide +kernel, by decide +kernel, by decide +kernel⟩, by decide, by decide⟩, tb_i 868 (by decide +kernel) (by decide +kernel), tb_i 13 (by decide +kernel) (by decide +kernel)⟩
theorem ck_X11_child_104 : CKV xX11_child 104 xX5_has 1 := ⟨⟨tb_i 878 (by decide +kernel) (by decide +kernel), tb_i 141 (by decide +kernel) (by decide +kernel), tb_i 881 (by decide +kernel) (by decide +kernel), ⟨by decide +kernel, by decide +kernel, by decide +kernel⟩, by decide, by decide⟩, tb_i 879 (by decide +kernel) (by decide +kernel), tb_i 880 (by decide +kernel) (by decide +kernel)⟩
theorem ck_X11_child_108 : CKV xX11_child 108 xX5_answerOf 2 := ⟨⟨tb_i 882 (by decide +kernel) (by decide +kernel), tb_i 141 (by decide +kernel) (by decide +kernel), tb_i 885 (by decide +kernel) (by decide +kernel), ⟨by decide +kernel, by decide +kernel, by decide +kernel⟩, by decide, by decide⟩, tb_i 883 (by decide +kernel) (by decide +kernel), tb_i 884 (by decide +kernel) (by decide +kernel)⟩
def sX11_child_b0 (a0 : Nat) (x1 : Int) (x2 : Int) (x3 : Int) (M : MM)   : Option Int := ((sX11_partyAt a0 x1 M).bind fun q_1 => (nM q_1 (some ((-1))) fun m_2 => (if wI (sX5_has m_2 x2 M) = 0 then (some ((-1))) else ((sX5_answerOf m_2 x2 x3 M).bind fun q_4 => (some (q_4))))))
def sX11_child (a0 : Nat) (x1 : Int) (x2 : Int) (x3 : Int) (M : MM) : Option Int := sX11_child_b0 a0 x1 x2 x3 M
set_option maxHeartbeats 4000000 in
set_option maxRecDepth 100000 in
theorem bX11_child_b0 {G : GG} (a0 : Nat) (x1 : Int) (x2 : Int) (x3 : Int) (M : MM) (oa0 : OB L0 a0 11)  {res : Int}  (h : sX11_child_b0 a0 x1 x2 x3 M = some res) : VV G xX11_child (ZM G xX11_child (some (.int (eI res))) L0 M) L0 M 0 0 0 [(0, .ref (gA G a0)), (1, .int (eI x1)), (2, .int (eI x2)), (3, .int (eI x3))] [] := by
  unfold sX11_child_b0 at h
  refine r_aload_n (pc := 0) (i := 0) dX11_child_0 rfl 0 rfl ?_
  refine r_iload_n (pc := 1) (i := 1) dX11_child_1 rfl 1 rfl ?_
  obtain ⟨q_1, hq_1, h⟩ := ob h
  refine r_cV (pc := 2) (Y := xX11_partyAt) (As := [.int (eI x1)]) (rest := []) (v := (some (nV G q_1))) (st1 := [nV G q_1]) ck_X11_child_94 (kX11_partyAt a0 x1 M oa0 hq_1) oa0 rfl rfl rfl rfl (Nat.le_of_ble_eq_true rfl) ⟨rfl, rfl⟩ rfl dX11_child_2 ?_
  have oq_1 := nX11_partyAt _ _ _ oa0 hq_1
  rcases q_1 with _ | m_2
  · replace h := nM_z h
    refine r_stk (st' := [.null]) rfl ?_
    refine r_astoreN (pc := 5) (lv' := [(4, .null), (0, .ref (gA G a0)), (1, .int (eI x1)), (2, .int (eI x2)), (3, .int (eI x3))]) dX11_child_5 (Nat.le_of_ble_eq_true rfl) rfl ?_
    refine r_aloadN (pc := 7) dX11_child_7 0 rfl ?_
    refine r_ifnullN (pc := 9) (tgt := 21) dX11_child_9 (by decide) ?_
    refine r_iconst (pc := 21) (v := (-1)) dX11_child_21 (by decide +kernel) ?_
    refine r_goto (pc := 22) (tgt := 32) dX11_child_22 (by decide) ?_
    cases h
    exact r_iret (pc := 32) rfl rfl (Nat.le_refl 0) (Nat.le_refl 0) dX11_child_32
  · replace h := nM_s h
    have om_2 := oq_1 _ rfl
    refine r_stk (st' := [.ref (gA G m_2)]) rfl ?_
    refine r_astore (pc := 5) (lv' := [(4, .ref (gA G m_2)), (0, .ref (gA G a0)), (1, .int (eI x1)), (2, .int (eI x2)), (3, .int (eI x3))]) dX11_child_5 (Nat.le_of_ble_eq_true rfl) rfl ?_
    refine r_aload (pc := 7) dX11_child_7 0 rfl ?_
    refine r_ifnullR (pc := 9) dX11_child_9 ?_
    refine r_aload (pc := 12) dX11_child_12 0 rfl ?_
    refine r_iload_n (pc := 14) (i := 2) dX11_child_14 rfl 3 rfl ?_
    refine r_cV (pc := 15) (Y := xX5_has) (As := [.int (eI x2)]) (rest := []) (v := (some (.int (eI (sX5_has m_2 x2 M))))) (st1 := [.int (eI (sX5_has m_2 x2 M))]) ck_X11_child_104 (kX5_has m_2 x2 M om_2) om_2 rfl rfl rfl rfl (Nat.le_of_ble_eq_true rfl) ⟨rfl, rfl⟩ rfl dX11_child_15 ?_
    refine r_if_ne (pc := 18) (tgt := 25) dX11_child_18 (by decide) rfl (fun c_3 => ?_) (fun c_3 => ?_)
    · replace h := (if_neg c_3).symm.trans h
      refine r_aload (pc := 25) dX11_child_25 0 rfl ?_
      refine r_iload_n (pc := 27) (i := 2) dX11_child_27 rfl 3 rfl ?_
      refine r_iload_n (pc := 28) (i := 3) dX11_child_28 rfl 4 rfl ?_
      obtain ⟨q_4, hq_4, h⟩ := ob h
      refine r_cV (pc := 29) (Y := xX5_answerOf) (As := [.int (eI x2), .int (eI x3)]) (rest := []) (v := (some (.int (eI q_4)))) (st1 := [.int (eI q_4)]) ck_X11_child_108 (kX5_answerOf m_2 x2 x3 M om_2 hq_4) om_2 rfl rfl rfl rfl (Nat.le_of_ble_eq_true rfl) ⟨rfl, rfl⟩ rfl dX11_child_29 ?_
      cases h
      exact r_iret (pc := 32) rfl rfl (Nat.le_refl 0) (Nat.le_refl 0) dX11_child_32
    · replace h := (if_pos c_3).symm.trans h
      refine r_iconst (pc := 21) (v := (-1)) dX11_child_21 (by decide +kernel) ?_
      refine r_goto (pc := 22) (tgt := 32) dX11_child_22 (by decide) ?_
      cases h
      exact r_iret (pc := 32) rfl rfl (Nat.le_refl 0) (Nat.le_refl 0) dX11_child_32
theorem kX11_child {G : GG} (a0 : Nat) (x1 : Int) (x2 : Int) (x3 : Int) (M : MM) {res : Int} (oa0 : OB L0 a0 11) (h : sX11_child a0 x1 x2 x3 M = some res) : CO G xX11_child [.ref (gA G a0), .int (eI x1), .int (eI x2), .int (eI x3)] L0 M (some (.int (eI res))) L0 M := CO_of (by decide +kernel) (Nat.le_of_ble_eq_true rfl) (bX11_child_b0 a0 x1 x2 x3 M oa0 h)
abbrev xX11_bookAt : XX := (yX11_bookAt, cX11_bookAt, 2, (some (.object "PaperDonkey$Lines")), 0, 0, 0, 0)
def sX11_bookAt_b0 (a0 : Nat) (x1 : Int) (M : MM)   : Option Nat := (if wI x1 < 0 then (some ((0))) else (if wI (M (gR (gR a0 0) 4) 1) ≤ wI x1 then (some ((0))) else (if 0 ≤ wI x1 ∧ wI x1 < 2 then (some (((gR (gR (gR a0 0) 6) (wI x1).toNat) + 1))) else none)))
def sX11_bookAt (a0 : Nat) (x1 : Int) (M : MM) : Option Nat := sX11_bookAt_b0 a0 x1 M
set_option maxHeartbeats 4000000 in
set_option maxRecDepth 100000 in
theorem bX11_bookAt_b0 {G : GG} (a0 : Nat) (x1 : Int) (M : MM) (oa0 : OB L0 a0 11)  {res : Nat}  (h : sX11_bookAt_b0 a0 x1 M = some res) : VV G xX11_bookAt (ZM G xX11_bookAt (some (nV G res)) L0 M) L0 M 0 0 0 [(0, .ref (gA G a0)), (1, .int (eI x1))] [] := by
  unfold sX11_bookAt_b0 at h
  refine r_iload_n (pc := 0) (i := 1) dX11_bookAt_0 rfl 1 rfl ?_
  refine r_if_lt (pc := 1) (tgt := 29) dX11_bookAt_1 (by decide) rfl (fun c_1 => ?_) (fun c_1 => ?_)
  · replace h := (if_pos c_1).symm.trans h
    refine r_null (pc := 29) dX11_bookAt_29 ?_
    refine r_stk (st' := [nV G (0)]) rfl ?_
    cases h
    exact r_aret (pc := 30) rfl (nV_or _) (Nat.le_refl 0) (Nat.le_refl 0) dX11_bookAt_30
  · replace h := (if_neg c_1).symm.trans h
    refine r_iload_n (pc := 4) (i := 1) dX11_bookAt_4 rfl 1 rfl ?_
    refine r_aload_n (pc := 5) (i := 0) dX11_bookAt_5 rfl 0 rfl ?_
    have o_2 := (wt_11_0 oa0).2
    refine r_getR (pc := 6) fg_11_10 rfl oa0 (wt_11_0 oa0).1 dX11_bookAt_6 ?_
    have o_3 := (wt_9_4 o_2).2
    refine r_getR (pc := 9) fg_11_317 rfl o_2 (wt_9_4 o_2).1 dX11_bookAt_9 ?_
    refine r_iconst (pc := 12) (v := 1) dX11_bookAt_12 (by decide +kernel) ?_
    refine r_iald (pc := 13) o_3 wl_1 ⟨by decide, by decide⟩ rfl dX11_bookAt_13 ?_
    refine r_icmp_ge (pc := 14) (tgt := 29) dX11_bookAt_14 (by decide) rfl rfl (fun c_4 => ?_) (fun c_4 => ?_)
    · replace h := (if_pos c_4).symm.trans h
      refine r_null (pc := 29) dX11_bookAt_29 ?_
      refine r_stk (st' := [nV G (0)]) rfl ?_
      cases h
      exact r_aret (pc := 30) rfl (nV_or _) (Nat.le_refl 0) (Nat.le_refl 0) dX11_bookAt_30
    · replace h := (if_neg c_4).symm.trans h
      refine r_aload_n (pc := 17) (i := 0) dX11_bookAt_17 rfl 0 rfl ?_
      have o_5 := (wt_11_0 oa0).2
      refine r_getR (pc := 18) fg_11_10 rfl oa0 (wt_11_0 oa0).1 dX11_bookAt_18 ?_
      have o_6 := (wt_9_6 o_5).2
      refine r_getR (pc := 21) fg_11_334 rfl o_5 (wt_9_6 o_5).1 dX11_bookAt_21 ?_
      refine r_iload_n (pc := 24) (i := 1) dX11_bookAt_24 rfl 1 rfl ?_
      obtain ⟨c_7, h⟩ := og h
      have o_8 := (wa_6 o_6 c_7).2
      refine r_aald6 (pc := 25) o_6 rfl c_7 rfl (wa_6 o_6 c_7).1 dX11_bookAt_25 ?_
      refine r_goto (pc := 26) (tgt := 30) dX11_bookAt_26 (by decide) ?_
      refine r_stk (st' := [nV G ((gR (gR (gR a0 0) 6) (wI x1).toNat) + 1)]) rfl ?_
      cases h
      exact r_aret (pc := 30) rfl (nV_or _) (Nat.le_refl 0) (Nat.le_refl 0) dX11_bookAt_30
theorem kX11_bookAt {G : GG} (a0 : Nat) (x1 : Int) (M : MM) {res : Nat} (oa0 : OB L0 a0 11) (h : sX11_bookAt a0 x1 M = some res) : CO G xX11_bookAt [.ref (gA G a0), .int (eI x1)] L0 M (some (nV G res)) L0 M := CO_of (by decide +kernel) (Nat.le_of_ble_eq_true rfl) (bX11_bookAt_b0 a0 x1 M oa0 h)
theorem nX11_bookAt (a0 : Nat) (x1 : Int) (M : MM) {res : Nat} (oa0 : OB L0 a0 11) (h : sX11_bookAt a0 x1 M = some res) : ∀ m, res = m + 1 → OB L0 m 3 := by
  unfold sX11_bookAt sX11_bookAt_b0 at h
  split at h
  · cases h; exact nf_0
  · split at h
    · cases h; exact nf_0
    · obtain ⟨c, h⟩ := og h
      cases h
      exact nf_s (wa_6 (wt_9_6 (wt_11_0 oa0).2).2 c).2
abbrev xX11_deed : XX := (yX11_deed, cX11_deed, 5, (some .int), 1, 22, 0, 0)
theorem ck_X11_deed_111 : CKV xX11_deed 111 xX11_bookAt 1 := ⟨⟨tb_i 895 (by decide +kernel) (by decide +kernel), tb_i 139 (by decide +kernel) (by decide +kernel), tb_i 898 (by decide +kernel) (by decide +kernel), ⟨by decide +kernel, by decide +kernel, by decide +kernel⟩, by decide, by decide⟩, tb_i 897 (by decide +kernel) (by decide +kernel), tb_i 14 (by decide +kernel) (by decide +kernel)⟩
theorem ck_X11_deed_120 : CKV xX11_deed 120 xX3_answer 2 := ⟨⟨tb_i 899 (by decide +kernel) (by decide +kernel), tb_i 142 (by decide +kernel) (by decide +kernel), tb_i 902 (by decide +kernel) (by decide +kernel), ⟨by decide +kernel, by decide +kernel, by decide +kernel⟩, by decide, by decide⟩, tb_i 900 (by decide +kernel) (by decide +kernel), tb_i 901 (by decide +kernel) (by decide +kernel)⟩
def sX11_deed_b30 (a0 : Nat) (x1 : Int) (x2 : Int) (x3 : Int) (M : MM)  (a4 : Nat) : Option Int := ((sX3_answer a4 x2 x3 M).bind fun q_1 => (some (q_1)))
def sX11_deed_b0 (a0 : Nat) (x1 : Int) (x2 : Int) (x3 : Int) (M : MM)   : Option Int := ((sX11_bookAt a0 x1 M).bind fun q_1 => (nM q_1 (some ((-2))) fun m_2 => (if wI x2 = (-1) then (if wI x3 = 0 then (some ((M m_2 4))) else (sX11_deed_b30 a0 x1 x2 x3 M m_2)) else (sX11_deed_b30 a0 x1 x2 x3 M m_2))))
def sX11_deed (a0 : Nat) (x1 : Int) (x2 : Int) (x3 : Int) (M : MM) : Option Int := sX11_deed_b0 a0 x1 x2 x3 M
set_option maxHeartbeats 4000000 in
set_option maxRecDepth 100000 in
theorem bX11_deed_b30 {G : GG} (a0 : Nat) (x1 : Int) (x2 : Int) (x3 : Int) (M : MM) (oa0 : OB L0 a0 11) (a4 : Nat) {res : Int} (oa4 : OB L0 a4 3) (h : sX11_deed_b30 a0 x1 x2 x3 M a4 = some res) : VV G xX11_deed (ZM G xX11_deed (some (.int (eI res))) L0 M) L0 M 0 0 30 [(2, .int (eI x2)), (3, .int (eI x3)), (4, .ref (gA G a4))] [] := by
  unfold sX11_deed_b30 at h
  refine r_aload (pc := 30) dX11_deed_30 2 rfl ?_
  refine r_iload_n (pc := 32) (i := 2) dX11_deed_32 rfl 0 rfl ?_
  refine r_iload_n (pc := 33) (i := 3) dX11_deed_33 rfl 1 rfl ?_
  obtain ⟨q_1, hq_1, h⟩ := ob h
  refine r_cV (pc := 34) (Y := xX3_answer) (As := [.int (eI x2), .int (eI x3)]) (rest := []) (v := (some (.int (eI q_1)))) (st1 := [.int (eI q_1)]) ck_X11_deed_120 (kX3_answer a4 x2 x3 M oa4 hq_1) oa4 rfl rfl rfl rfl (Nat.le_of_ble_eq_true rfl) ⟨rfl, rfl⟩ rfl dX11_deed_34 ?_
  cases h
  exact r_iret (pc := 37) rfl rfl (Nat.le_refl 0) (Nat.le_refl 0) dX11_deed_37
set_option maxHeartbeats 4000000 in
set_option maxRecDepth 100000 in
theorem bX11_deed_b0 {G : GG} (a0 : Nat) (x1 : Int) (x2 : Int) (x3 : Int) (M : MM) (oa0 : OB L0 a0 11)  {res : Int}  (h : sX11_deed_b0 a0 x1 x2 x3 M = some res) : VV G xX11_deed (ZM G xX11_deed (some (.int (eI res))) L0 M) L0 M 0 0 0 [(0, .ref (gA G a0)), (1, .int (eI x1)), (2, .int (eI x2)), (3, .int (eI x3))] [] := by
  unfold sX11_deed_b0 at h
  refine r_aload_n (pc := 0) (i := 0) dX11_deed_0 rfl 0 rfl ?_
  refine r_iload_n (pc := 1) (i := 1) dX11_deed_1 rfl 1 rfl ?_
  obtain ⟨q_1, hq_1, h⟩ := ob h
  refine r_cV (pc := 2) (Y := xX11_bookAt) (As := [.int (eI x1)]) (rest := []) (v := (some (nV G q_1))) (st1 := [nV G q_1]) ck_X11_deed_111 (kX11_bookAt a0 x1 M oa0 hq_1) oa0 rfl rfl rfl rfl (Nat.le_of_ble_eq_true rfl) ⟨rfl, rfl⟩ rfl dX11_deed_2 ?_
  have oq_1 := nX11_bookAt _ _ _ oa0 hq_1
  rcases q_1 with _ | m_2
  · replace h := nM_z h
    refine r_stk (st' := [.null]) rfl ?_
    refine r_astoreN (pc := 5) (lv' := [(4, .null), (0, .ref (gA G a0)), (1, .int (eI x1)), (2, .int (eI x2)), (3, .int (eI x3))]) dX11_deed_5 (Nat.le_of_ble_eq_true rfl) rfl ?_
    refine r_aloadN (pc := 7) dX11_deed_7 0 rfl ?_
    refine r_ifnonnullN (pc := 9) dX11_deed_9 ?_
    refine r_bipush (pc := 12) (v := (-2)) dX11_deed_12 (by decide +kernel) ?_
    cases h
    exact r_iret (pc := 14) rfl rfl (Nat.le_refl 0) (Nat.le_refl 0) dX11_deed_14
  · replace h := nM_s h
    have om_2 := oq_1 _ rfl
    refine r_stk (st' := [.ref (gA G m_2)]) rfl ?_
    refine r_astore (pc := 5) (lv' := [(4, .ref (gA G m_2)), (0, .ref (gA G a0)), (1, .int (eI x1)), (2, .int (eI x2)), (3, .int (eI x3))]) dX11_deed_5 (Nat.le_of_ble_eq_true rfl) rfl ?_
    refine r_aload (pc := 7) dX11_deed_7 0 rfl ?_
    refine r_ifnonnullR (pc := 9) (tgt := 15) dX11_deed_9 (by decide) ?_
    refine r_iload_n (pc := 15) (i := 2) dX11_deed_15 rfl 3 rfl ?_
    refine r_iconst (pc := 16) (v := (-1)) dX11_deed_16 (by decide +kernel) ?_
    refine r_icmp_ne (pc := 17) (tgt := 30) dX11_deed_17 (by decide) rfl wl_m1 (fun c_3 => ?_) (fun c_3 => ?_)
    · replace h := (if_neg c_3).symm.trans h
      refine r_sub (lv' := [(2, .int (eI x2)), (3, .int (eI x3)), (4, .ref (gA G m_2))]) [3, 4, 0] rfl ?_
      exact bX11_deed_b30 a0 x1 x2 x3 M oa0 _ om_2 h
    · replace h := (if_pos c_3).symm.trans h
      refine r_iload_n (pc := 20) (i := 3) dX11_deed_20 rfl 4 rfl ?_
      refine r_if_ne (pc := 21) (tgt := 30) dX11_deed_21 (by decide) rfl (fun c_4 => ?_) (fun c_4 => ?_)
      · replace h := (if_neg c_4).symm.trans h
        refine r_sub (lv' := [(2, .int (eI x2)), (3, .int (eI x3)), (4, .ref (gA G m_2))]) [3, 4, 0] rfl ?_
        exact bX11_deed_b30 a0 x1 x2 x3 M oa0 _ om_2 h
      · replace h := (if_pos c_4).symm.trans h
        refine r_aload (pc := 24) dX11_deed_24 0 rfl ?_
        refine r_getI (pc := 26) fg_11_115 rfl om_2 dX11_deed_26 ?_
        cases h
        exact r_iret (pc := 29) rfl rfl (Nat.le_refl 0) (Nat.le_refl 0) dX11_deed_29
theorem kX11_deed {G : GG} (a0 : Nat) (x1 : Int) (x2 : Int) (x3 : Int) (M : MM) {res : Int} (oa0 : OB L0 a0 11) (h : sX11_deed a0 x1 x2 x3 M = some res) : CO G xX11_deed [.ref (gA G a0), .int (eI x1), .int (eI x2), .int (eI x3)] L0 M (some (.int (eI res))) L0 M := CO_of (by decide +kernel) (Nat.le_of_ble_eq_true rfl) (bX11_deed_b0 a0 x1 x2 x3 M oa0 h)
abbrev xX11_stop : XX := (yX11_stop, cX11_stop, 5, (some .int), 6, 142, 0, 0)
theorem ck_X11_stop_94 : CKV xX11_stop 94 xX11_partyAt 1 := ⟨⟨tb_i 866 (by decide +kernel) (by decide +kernel), tb_i 139 (by decide +kernel) (by decide +kernel), tb_i 869 (by decide +kernel) (by decide +kernel), ⟨by decide +kernel, by decide +kernel, by decide +kernel⟩, by decide, by decide⟩, tb_i 868 (by decide +kernel) (by decide +kernel), tb_i 13 (by decide +kernel) (by decide +kernel)⟩
theorem ck_X11_stop_111 : CKV xX11_stop 111 xX11_bookAt 1 := ⟨⟨tb_i 895 (by decide +kernel) (by decide +kernel), tb_i 139 (by decide +kernel) (by decide +kernel), tb_i 898 (by decide +kernel) (by decide +kernel), ⟨by decide +kernel, by decide +kernel, by decide +kernel⟩, by decide, by decide⟩, tb_i 897 (by decide +kernel) (by decide +kernel), tb_i 14 (by decide +kernel) (by decide +kernel)⟩
theorem ck_X11_stop_122 : CKV xX11_stop 122 xX6_runs 3 := ⟨⟨tb_i 907 (by decide +kernel) (by decide +kernel), tb_i 147 (by decide +kernel) (by decide +kernel), tb_i 910 (by decide +kernel) (by decide +kernel), ⟨by decide +kernel, by decide +kernel, by decide +kernel⟩, by decide, by decide⟩, tb_i 908 (by decide +kernel) (by decide +kernel), tb_i 909 (by decide +kernel) (by decide +kernel)⟩
def sX11_stop_b0 (a0 : Nat) (x1 : Int) (x2 : Int)   (M : MM) : Option (Int × MM) := ((sX11_partyAt a0 x1 M).bind fun q_1 => (nM q_1 ((sX11_bookAt a0 x2 M).bind fun q_3 => (nM q_3 (some (((-1), M))) fun m_4 => (some (((-1), M))))) fun m_2 => ((sX11_bookAt a0 x2 M).bind fun q_5 => (nM q_5 (some (((-1), M))) fun m_6 => ((sX6_runs (gR a0 4) m_2 m_6 (M m_6 4) M).bind fun q_8 => (some (((q_8.1), q_8.2))))))))
def sX11_stop (a0 : Nat) (x1 : Int) (x2 : Int) (M : MM) : Option (Int × MM) := sX11_stop_b0 a0 x1 x2 M
set_option maxHeartbeats 4000000 in
set_option maxRecDepth 100000 in
theorem bX11_stop_b0 {G : GG} (a0 : Nat) (x1 : Int) (x2 : Int) (oa0 : OB L0 a0 11)  (M : MM) {res : (Int × MM)}  (h : sX11_stop_b0 a0 x1 x2 M = some res) : VV G xX11_stop (ZM G xX11_stop (some (.int (eI res.1))) L0 res.2) L0 M 0 0 0 [(0, .ref (gA G a0)), (1, .int (eI x1)), (2, .int (eI x2))] [] := by
  unfold sX11_stop_b0 at h
  refine r_aload_n (pc := 0) (i := 0) dX11_stop_0 rfl 0 rfl ?_
  refine r_iload_n (pc := 1) (i := 1) dX11_stop_1 rfl 1 rfl ?_
  obtain ⟨q_1, hq_1, h⟩ := ob h
  refine r_cV (pc := 2) (Y := xX11_partyAt) (As := [.int (eI x1)]) (rest := []) (v := (some (nV G q_1))) (st1 := [nV G q_1]) ck_X11_stop_94 (kX11_partyAt a0 x1 M oa0 hq_1) oa0 rfl rfl rfl rfl (Nat.le_of_ble_eq_true rfl) ⟨rfl, rfl⟩ rfl dX11_stop_2 ?_
  have oq_1 := nX11_partyAt _ _ _ oa0 hq_1
  rcases q_1 with _ | m_2
  · replace h := nM_z h
    refine r_stk (st' := [.null]) rfl ?_
    refine r_astore_nN (pc := 5) (i := 3) (lv' := [(3, .null), (0, .ref (gA G a0)), (1, .int (eI x1)), (2, .int (eI x2))]) dX11_stop_5 rfl (Nat.le_of_ble_eq_true rfl) rfl ?_
    refine r_aload_n (pc := 6) (i := 0) dX11_stop_6 rfl 1 rfl ?_
    refine r_iload_n (pc := 7) (i := 2) dX11_stop_7 rfl 3 rfl ?_
    obtain ⟨q_3, hq_3, h⟩ := ob h
    refine r_cV (pc := 8) (Y := xX11_bookAt) (As := [.int (eI x2)]) (rest := []) (v := (some (nV G q_3))) (st1 := [nV G q_3]) ck_X11_stop_111 (kX11_bookAt a0 x2 M oa0 hq_3) oa0 rfl rfl rfl rfl (Nat.le_of_ble_eq_true rfl) ⟨rfl, rfl⟩ rfl dX11_stop_8 ?_
    have oq_3 := nX11_bookAt _ _ _ oa0 hq_3
    rcases q_3 with _ | m_4
    · replace h := nM_z h
      refine r_stk (st' := [.null]) rfl ?_
      refine r_astoreN (pc := 11) (lv' := [(4, .null), (3, .null), (0, .ref (gA G a0)), (1, .int (eI x1)), (2, .int (eI x2))]) dX11_stop_11 (Nat.le_of_ble_eq_true rfl) rfl ?_
      refine r_aload_nN (pc := 13) (i := 3) dX11_stop_13 rfl 1 rfl ?_
      refine r_ifnullN (pc := 14) (tgt := 22) dX11_stop_14 (by decide) ?_
      refine r_iconst (pc := 22) (v := (-1)) dX11_stop_22 (by decide +kernel) ?_
      refine r_goto (pc := 23) (tgt := 41) dX11_stop_23 (by decide) ?_
      cases h
      exact r_iret (pc := 41) rfl rfl (Nat.le_refl 0) (Nat.le_refl 0) dX11_stop_41
    · replace h := nM_s h
      have om_4 := oq_3 _ rfl
      refine r_stk (st' := [.ref (gA G m_4)]) rfl ?_
      refine r_astore (pc := 11) (lv' := [(4, .ref (gA G m_4)), (3, .null), (0, .ref (gA G a0)), (1, .int (eI x1)), (2, .int (eI x2))]) dX11_stop_11 (Nat.le_of_ble_eq_true rfl) rfl ?_
      refine r_aload_nN (pc := 13) (i := 3) dX11_stop_13 rfl 1 rfl ?_
      refine r_ifnullN (pc := 14) (tgt := 22) dX11_stop_14 (by decide) ?_
      refine r_iconst (pc := 22) (v := (-1)) dX11_stop_22 (by decide +kernel) ?_
      refine r_goto (pc := 23) (tgt := 41) dX11_stop_23 (by decide) ?_
      cases h
      exact r_iret (pc := 41) rfl rfl (Nat.le_refl 0) (Nat.le_refl 0) dX11_stop_41
  · replace h := nM_s h
    have om_2 := oq_1 _ rfl
    refine r_stk (st' := [.ref (gA G m_2)]) rfl ?_
    refine r_astore_n (pc := 5) (i := 3) (lv' := [(3, .ref (gA G m_2)), (0, .ref (gA G a0)), (1, .int (eI x1)), (2, .int (eI x2))]) dX11_stop_5 rfl (Nat.le_of_ble_eq_true rfl) rfl ?_
    refine r_aload_n (pc := 6) (i := 0) dX11_stop_6 rfl 1 rfl ?_
    refine r_iload_n (pc := 7) (i := 2) dX11_stop_7 rfl 3 rfl ?_
    obtain ⟨q_5, hq_5, h⟩ := ob h
    refine r_cV (pc := 8) (Y := xX11_bookAt) (As := [.int (eI x2)]) (rest := []) (v := (some (nV G q_5))) (st1 := [nV G q_5]) ck_X11_stop_111 (kX11_bookAt a0 x2 M oa0 hq_5) oa0 rfl rfl rfl rfl (Nat.le_of_ble_eq_true rfl) ⟨rfl, rfl⟩ rfl dX11_stop_8 ?_
    have oq_5 := nX11_bookAt _ _ _ oa0 hq_5
    rcases q_5 with _ | m_6
    · replace h := nM_z h
      refine r_stk (st' := [.null]) rfl ?_
      refine r_astoreN (pc := 11) (lv' := [(4, .null), (3, .ref (gA G m_2)), (0, .ref (gA G a0)), (1, .int (eI x1)), (2, .int (eI x2))]) dX11_stop_11 (Nat.le_of_ble_eq_true rfl) rfl ?_
      refine r_aload_n (pc := 13) (i := 3) dX11_stop_13 rfl 1 rfl ?_
      refine r_ifnullR (pc := 14) dX11_stop_14 ?_
      refine r_aloadN (pc := 17) dX11_stop_17 0 rfl ?_
      refine r_ifnonnullN (pc := 19) dX11_stop_19 ?_
      refine r_iconst (pc := 22) (v := (-1)) dX11_stop_22 (by decide +kernel) ?_
      refine r_goto (pc := 23) (tgt := 41) dX11_stop_23 (by decide) ?_
      cases h
      exact r_iret (pc := 41) rfl rfl (Nat.le_refl 0) (Nat.le_refl 0) dX11_stop_41
    · replace h := nM_s h
      have om_6 := oq_5 _ rfl
      refine r_stk (st' := [.ref (gA G m_6)]) rfl ?_
      refine r_astore (pc := 11) (lv' := [(4, .ref (gA G m_6)), (3, .ref (gA G m_2)), (0, .ref (gA G a0)), (1, .int (eI x1)), (2, .int (eI x2))]) dX11_stop_11 (Nat.le_of_ble_eq_true rfl) rfl ?_
      refine r_aload_n (pc := 13) (i := 3) dX11_stop_13 rfl 1 rfl ?_
      refine r_ifnullR (pc := 14) dX11_stop_14 ?_
      refine r_aload (pc := 17) dX11_stop_17 0 rfl ?_
      refine r_ifnonnullR (pc := 19) (tgt := 26) dX11_stop_19 (by decide) ?_
      refine r_aload_n (pc := 26) (i := 0) dX11_stop_26 rfl 2 rfl ?_
      have o_7 := (wt_11_4 oa0).2
      refine r_getR (pc := 27) fg_11_34 rfl oa0 (wt_11_4 oa0).1 dX11_stop_27 ?_
      refine r_aload_n (pc := 30) (i := 3) dX11_stop_30 rfl 1 rfl ?_
      refine r_aload (pc := 31) dX11_stop_31 0 rfl ?_
      refine r_aload (pc := 33) dX11_stop_33 0 rfl ?_
      refine r_getI (pc := 35) fg_11_115 rfl om_6 dX11_stop_35 ?_
      obtain ⟨q_8, hq_8, h⟩ := ob h
      refine r_cV (pc := 38) (Y := xX6_runs) (As := [.ref (gA G m_2), .ref (gA G m_6), .int (eI (M m_6 4))]) (rest := []) (v := (some (.int (eI (q_8.1))))) (st1 := [.int (eI (q_8.1))]) ck_X11_stop_122 (kX6_runs (gR a0 4) m_2 m_6 (M m_6 4) M o_7 om_2 om_6 hq_8) o_7 rfl rfl rfl rfl (Nat.le_of_ble_eq_true rfl) ⟨rfl, rfl⟩ rfl dX11_stop_38 ?_
      cases h
      exact r_iret (pc := 41) rfl rfl (Nat.le_refl 0) (Nat.le_refl 0) dX11_stop_41
theorem kX11_stop {G : GG} (a0 : Nat) (x1 : Int) (x2 : Int) (M : MM) {res : (Int × MM)} (oa0 : OB L0 a0 11) (h : sX11_stop a0 x1 x2 M = some res) : CO G xX11_stop [.ref (gA G a0), .int (eI x1), .int (eI x2)] L0 M (some (.int (eI res.1))) L0 res.2 := CO_of (by decide +kernel) (Nat.le_of_ble_eq_true rfl) (bX11_stop_b0 a0 x1 x2 oa0 M h)
abbrev xX11_state : XX := (yX11_state, cX11_state, 7, (some .int), 6, 142, 0, 0)
theorem ck_X11_state_94 : CKV xX11_state 94 xX11_partyAt 1 := ⟨⟨tb_i 866 (by decide +kernel) (by decide +kernel), tb_i 139 (by decide +kernel) (by decide +kernel), tb_i 869 (by decide +kernel) (by decide +kernel), ⟨by decide +kernel, by decide +kernel, by decide +kernel⟩, by decide, by decide⟩, tb_i 868 (by decide +kernel) (by decide +kernel), tb_i 13 (by decide +kernel) (by decide +kernel)⟩
theorem ck_X11_state_111 : CKV xX11_state 111 xX11_bookAt 1 := ⟨⟨tb_i 895 (by decide +kernel) (by decide +kernel), tb_i 139 (by decide +kernel) (by decide +kernel), tb_i 898 (by decide +kernel) (by decide +kernel), ⟨by decide +kernel, by decide +kernel, by decide +kernel⟩, by decide, by decide⟩, tb_i 897 (by decide +kernel) (by decide +kernel), tb_i 14 (by decide +kernel) (by decide +kernel)⟩
theorem ck_X11_state_122 : CKV xX11_state 122 xX6_runs 3 := ⟨⟨tb_i 907 (by decide +kernel) (by decide +kernel), tb_i 147 (by decide +kernel) (by decide +kernel), tb_i 910 (by decide +kernel) (by decide +kernel), ⟨by decide +kernel, by decide +kernel, by decide +kernel⟩, by decide, by decide⟩, tb_i 908 (by decide +kernel) (by decide +kernel), tb_i 909 (by decide +kernel) (by decide +kernel)⟩
theorem ck_X11_state_126 : CKV xX11_state 126 xX6_answer 2 := ⟨⟨tb_i 961 (by decide +kernel) (by decide +kernel), tb_i 147 (by decide +kernel) (by decide +kernel), tb_i 964 (by decide +kernel) (by decide +kernel), ⟨by decide +kernel, by decide +kernel, by decide +kernel⟩, by decide, by decide⟩, tb_i 962 (by decide +kernel) (by decide +kernel), tb_i 963 (by decide +kernel) (by decide +kernel)⟩
def sX11_state_b0 (a0 : Nat) (x1 : Int) (x2 : Int) (x3 : Int) (x4 : Int)   (M : MM) : Option (Int × MM) := ((sX11_partyAt a0 x1 M).bind fun q_1 => (nM q_1 ((sX11_bookAt a0 x2 M).bind fun q_3 => (nM q_3 (some (((-2), M))) fun m_4 => (some (((-2), M))))) fun m_2 => ((sX11_bookAt a0 x2 M).bind fun q_5 => (nM q_5 (some (((-2), M))) fun m_6 => (if wI x3 < 0 then (some (((-2), M))) else ((sX6_runs (gR a0 4) m_2 m_6 x3 M).bind fun q_9 => (if wI (q_9.1) = wI x3 then ((sX6_answer (gR a0 4) m_2 x4 q_9.2).bind fun q_12 => (some ((q_12, q_9.2)))) else (some (((-2), q_9.2))))))))))
def sX11_state (a0 : Nat) (x1 : Int) (x2 : Int) (x3 : Int) (x4 : Int) (M : MM) : Option (Int × MM) := sX11_state_b0 a0 x1 x2 x3 x4 M
set_option maxHeartbeats 4000000 in
set_option maxRecDepth 100000 in
theorem bX11_state_b0 {G : GG} (a0 : Nat) (x1 : Int) (x2 : Int) (x3 : Int) (x4 : Int) (oa0 : OB L0 a0 11)  (M : MM) {res : (Int × MM)}  (h : sX11_state_b0 a0 x1 x2 x3 x4 M = some res) : VV G xX11_state (ZM G xX11_state (some (.int (eI res.1))) L0 res.2) L0 M 0 0 0 [(0, .ref (gA G a0)), (1, .int (eI x1)), (2, .int (eI x2)), (3, .int (eI x3)), (4, .int (eI x4))] [] := by
  unfold sX11_state_b0 at h
  refine r_aload_n (pc := 0) (i := 0) dX11_state_0 rfl 0 rfl ?_
  refine r_iload_n (pc := 1) (i := 1) dX11_state_1 rfl 1 rfl ?_
  obtain ⟨q_1, hq_1, h⟩ := ob h
  refine r_cV (pc := 2) (Y := xX11_partyAt) (As := [.int (eI x1)]) (rest := []) (v := (some (nV G q_1))) (st1 := [nV G q_1]) ck_X11_state_94 (kX11_partyAt a0 x1 M oa0 hq_1) oa0 rfl rfl rfl rfl (Nat.le_of_ble_eq_true rfl) ⟨rfl, rfl⟩ rfl dX11_state_2 ?_
  have oq_1 := nX11_partyAt _ _ _ oa0 hq_1
  rcases q_1 with _ | m_2
  · replace h := nM_z h
    refine r_stk (st' := [.null]) rfl ?_
    refine r_astoreN (pc := 5) (lv' := [(5, .null), (0, .ref (gA G a0)), (1, .int (eI x1)), (2, .int (eI x2)), (3, .int (eI x3)), (4, .int (eI x4))]) dX11_state_5 (Nat.le_of_ble_eq_true rfl) rfl ?_
    refine r_aload_n (pc := 7) (i := 0) dX11_state_7 rfl 1 rfl ?_
    refine r_iload_n (pc := 8) (i := 2) dX11_state_8 rfl 3 rfl ?_
    obtain ⟨q_3, hq_3, h⟩ := ob h
    refine r_cV (pc := 9) (Y := xX11_bookAt) (As := [.int (eI x2)]) (rest := []) (v := (some (nV G q_3))) (st1 := [nV G q_3]) ck_X11_state_111 (kX11_bookAt a0 x2 M oa0 hq_3) oa0 rfl rfl rfl rfl (Nat.le_of_ble_eq_true rfl) ⟨rfl, rfl⟩ rfl dX11_state_9 ?_
    have oq_3 := nX11_bookAt _ _ _ oa0 hq_3
    rcases q_3 with _ | m_4
    · replace h := nM_z h
      refine r_stk (st' := [.null]) rfl ?_
      refine r_astoreN (pc := 12) (lv' := [(6, .null), (5, .null), (0, .ref (gA G a0)), (1, .int (eI x1)), (2, .int (eI x2)), (3, .int (eI x3)), (4, .int (eI x4))]) dX11_state_12 (Nat.le_of_ble_eq_true rfl) rfl ?_
      refine r_aloadN (pc := 14) dX11_state_14 1 rfl ?_
      refine r_ifnullN (pc := 16) (tgt := 44) dX11_state_16 (by decide) ?_
      refine r_bipush (pc := 44) (v := (-2)) dX11_state_44 (by decide +kernel) ?_
      cases h
      exact r_iret (pc := 46) rfl rfl (Nat.le_refl 0) (Nat.le_refl 0) dX11_state_46
    · replace h := nM_s h
      have om_4 := oq_3 _ rfl
      refine r_stk (st' := [.ref (gA G m_4)]) rfl ?_
      refine r_astore (pc := 12) (lv' := [(6, .ref (gA G m_4)), (5, .null), (0, .ref (gA G a0)), (1, .int (eI x1)), (2, .int (eI x2)), (3, .int (eI x3)), (4, .int (eI x4))]) dX11_state_12 (Nat.le_of_ble_eq_true rfl) rfl ?_
      refine r_aloadN (pc := 14) dX11_state_14 1 rfl ?_
      refine r_ifnullN (pc := 16) (tgt := 44) dX11_state_16 (by decide) ?_
      refine r_bipush (pc := 44) (v := (-2)) dX11_state_44 (by decide +kernel) ?_
      cases h
      exact r_iret (pc := 46) rfl rfl (Nat.le_refl 0) (Nat.le_refl 0) dX11_state_46
  · replace h := nM_s h
    have om_2 := oq_1 _ rfl
    refine r_stk (st' := [.ref (gA G m_2)]) rfl ?_
    refine r_astore (pc := 5) (lv' := [(5, .ref (gA G m_2)), (0, .ref (gA G a0)), (1, .int (eI x1)), (2, .int (eI x2)), (3, .int (eI x3)), (4, .int (eI x4))]) dX11_state_5 (Nat.le_of_ble_eq_true rfl) rfl ?_
    refine r_aload_n (pc := 7) (i := 0) dX11_state_7 rfl 1 rfl ?_
    refine r_iload_n (pc := 8) (i := 2) dX11_state_8 rfl 3 rfl ?_
    obtain ⟨q_5, hq_5, h⟩ := ob h
    refine r_cV (pc := 9) (Y := xX11_bookAt) (As := [.int (eI x2)]) (rest := []) (v := (some (nV G q_5))) (st1 := [nV G q_5]) ck_X11_state_111 (kX11_bookAt a0 x2 M oa0 hq_5) oa0 rfl rfl rfl rfl (Nat.le_of_ble_eq_true rfl) ⟨rfl, rfl⟩ rfl dX11_state_9 ?_
    have oq_5 := nX11_bookAt _ _ _ oa0 hq_5
    rcases q_5 with _ | m_6
    · replace h := nM_z h
      refine r_stk (st' := [.null]) rfl ?_
      refine r_astoreN (pc := 12) (lv' := [(6, .null), (5, .ref (gA G m_2)), (0, .ref (gA G a0)), (1, .int (eI x1)), (2, .int (eI x2)), (3, .int (eI x3)), (4, .int (eI x4))]) dX11_state_12 (Nat.le_of_ble_eq_true rfl) rfl ?_
      refine r_aload (pc := 14) dX11_state_14 1 rfl ?_
      refine r_ifnullR (pc := 16) dX11_state_16 ?_
      refine r_aloadN (pc := 19) dX11_state_19 0 rfl ?_
      refine r_ifnullN (pc := 21) (tgt := 44) dX11_state_21 (by decide) ?_
      refine r_bipush (pc := 44) (v := (-2)) dX11_state_44 (by decide +kernel) ?_
      cases h
      exact r_iret (pc := 46) rfl rfl (Nat.le_refl 0) (Nat.le_refl 0) dX11_state_46
    · replace h := nM_s h
      have om_6 := oq_5 _ rfl
      refine r_stk (st' := [.ref (gA G m_6)]) rfl ?_
      refine r_astore (pc := 12) (lv' := [(6, .ref (gA G m_6)), (5, .ref (gA G m_2)), (0, .ref (gA G a0)), (1, .int (eI x1)), (2, .int (eI x2)), (3, .int (eI x3)), (4, .int (eI x4))]) dX11_state_12 (Nat.le_of_ble_eq_true rfl) rfl ?_
      refine r_aload (pc := 14) dX11_state_14 1 rfl ?_
      refine r_ifnullR (pc := 16) dX11_state_16 ?_
      refine r_aload (pc := 19) dX11_state_19 0 rfl ?_
      refine r_ifnullR (pc := 21) dX11_state_21 ?_
      refine r_iload_n (pc := 24) (i := 3) dX11_state_24 rfl 5 rfl ?_
      refine r_if_lt (pc := 25) (tgt := 44) dX11_state_25 (by decide) rfl (fun c_7 => ?_) (fun c_7 => ?_)
      · replace h := (if_pos c_7).symm.trans h
        refine r_bipush (pc := 44) (v := (-2)) dX11_state_44 (by decide +kernel) ?_
        cases h
        exact r_iret (pc := 46) rfl rfl (Nat.le_refl 0) (Nat.le_refl 0) dX11_state_46
      · replace h := (if_neg c_7).symm.trans h
        refine r_aload_n (pc := 28) (i := 0) dX11_state_28 rfl 2 rfl ?_
        have o_8 := (wt_11_4 oa0).2
        refine r_getR (pc := 29) fg_11_34 rfl oa0 (wt_11_4 oa0).1 dX11_state_29 ?_
        refine r_aload (pc := 32) dX11_state_32 1 rfl ?_
        refine r_aload (pc := 34) dX11_state_34 0 rfl ?_
        refine r_iload_n (pc := 36) (i := 3) dX11_state_36 rfl 5 rfl ?_
        obtain ⟨q_9, hq_9, h⟩ := ob h
        refine r_cV (pc := 37) (Y := xX6_runs) (As := [.ref (gA G m_2), .ref (gA G m_6), .int (eI x3)]) (rest := []) (v := (some (.int (eI (q_9.1))))) (st1 := [.int (eI (q_9.1))]) ck_X11_state_122 (kX6_runs (gR a0 4) m_2 m_6 x3 M o_8 om_2 om_6 hq_9) o_8 rfl rfl rfl rfl (Nat.le_of_ble_eq_true rfl) ⟨rfl, rfl⟩ rfl dX11_state_37 ?_
        refine r_iload_n (pc := 40) (i := 3) dX11_state_40 rfl 5 rfl ?_
        refine r_icmp_eq (pc := 41) (tgt := 47) dX11_state_41 (by decide) rfl rfl (fun c_10 => ?_) (fun c_10 => ?_)
        · replace h := (if_pos c_10).symm.trans h
          refine r_aload_n (pc := 47) (i := 0) dX11_state_47 rfl 2 rfl ?_
          have o_11 := (wt_11_4 oa0).2
          refine r_getR (pc := 48) fg_11_34 rfl oa0 (wt_11_4 oa0).1 dX11_state_48 ?_
          refine r_aload (pc := 51) dX11_state_51 1 rfl ?_
          refine r_iload (pc := 53) dX11_state_53 6 rfl ?_
          obtain ⟨q_12, hq_12, h⟩ := ob h
          refine r_cV (pc := 55) (Y := xX6_answer) (As := [.ref (gA G m_2), .int (eI x4)]) (rest := []) (v := (some (.int (eI q_12)))) (st1 := [.int (eI q_12)]) ck_X11_state_126 (kX6_answer (gR a0 4) m_2 x4 q_9.2 o_11 om_2 hq_12) o_11 rfl rfl rfl rfl (Nat.le_of_ble_eq_true rfl) ⟨rfl, rfl⟩ rfl dX11_state_55 ?_
          cases h
          exact r_iret (pc := 58) rfl rfl (Nat.le_refl 0) (Nat.le_refl 0) dX11_state_58
        · replace h := (if_neg c_10).symm.trans h
          refine r_bipush (pc := 44) (v := (-2)) dX11_state_44 (by decide +kernel) ?_
          cases h
          exact r_iret (pc := 46) rfl rfl (Nat.le_refl 0) (Nat.le_refl 0) dX11_state_46
theorem kX11_state {G : GG} (a0 : Nat) (x1 : Int) (x2 : Int) (x3 : Int) (x4 : Int) (M : MM) {res : (Int × MM)} (oa0 : OB L0 a0 11) (h : sX11_state a0 x1 x2 x3 x4 M = some res) : CO G xX11_state [.ref (gA G a0), .int (eI x1), .int (eI x2), .int (eI x3), .int (eI x4)] L0 M (some (.int (eI res.1))) L0 res.2 := CO_of (by decide +kernel) (Nat.le_of_ble_eq_true rfl) (bX11_state_b0 a0 x1 x2 x3 x4 oa0 M h)
abbrev xX11_did : XX := (yX11_did, cX11_did, 8, (some .int), 6, 142, 0, 0)
theorem ck_X11_did_94 : CKV xX11_did 94 xX11_partyAt 1 := ⟨⟨tb_i 866 (by decide +kernel) (by decide +kernel), tb_i 139 (by decide +kernel) (by decide +kernel), tb_i 869 (by decide +kernel) (by decide +kernel), ⟨by decide +kernel, by decide +kernel, by decide +kernel⟩, by decide, by decide⟩, tb_i 868 (by decide +kernel) (by decide +kernel), tb_i 13 (by decide +kernel) (by decide +kernel)⟩
theorem ck_X11_did_104 : CKV xX11_did 104 xX5_has 1 := ⟨⟨tb_i 878 (by decide +kernel) (by decide +kernel), tb_i 141 (by decide +kernel) (by decide +kernel), tb_i 881 (by decide +kernel) (by decide +kernel), ⟨by decide +kernel, by decide +kernel, by decide +kernel⟩, by decide, by decide⟩, tb_i 879 (by decide +kernel) (by decide +kernel), tb_i 880 (by decide +kernel) (by decide +kernel)⟩
theorem ck_X11_did_111 : CKV xX11_did 111 xX11_bookAt 1 := ⟨⟨tb_i 895 (by decide +kernel) (by decide +kernel), tb_i 139 (by decide +kernel) (by decide +kernel), tb_i 898 (by decide +kernel) (by decide +kernel), ⟨by decide +kernel, by decide +kernel, by decide +kernel⟩, by decide, by decide⟩, tb_i 897 (by decide +kernel) (by decide +kernel), tb_i 14 (by decide +kernel) (by decide +kernel)⟩
theorem ck_X11_did_122 : CKV xX11_did 122 xX6_runs 3 := ⟨⟨tb_i 907 (by decide +kernel) (by decide +kernel), tb_i 147 (by decide +kernel) (by decide +kernel), tb_i 910 (by decide +kernel) (by decide +kernel), ⟨by decide +kernel, by decide +kernel, by decide +kernel⟩, by decide, by decide⟩, tb_i 908 (by decide +kernel) (by decide +kernel), tb_i 909 (by decide +kernel) (by decide +kernel)⟩
theorem ck_X11_did_129 : CKV xX11_did 129 xX6_answerOf 2 := ⟨⟨tb_i 969 (by decide +kernel) (by decide +kernel), tb_i 147 (by decide +kernel) (by decide +kernel), tb_i 972 (by decide +kernel) (by decide +kernel), ⟨by decide +kernel, by decide +kernel, by decide +kernel⟩, by decide, by decide⟩, tb_i 970 (by decide +kernel) (by decide +kernel), tb_i 971 (by decide +kernel) (by decide +kernel)⟩
def sX11_did_b0 (a0 : Nat) (x1 : Int) (x2 : Int) (x3 : Int) (x4 : Int) (x5 : Int)   (M : MM) : Option (Int × MM) := ((sX11_partyAt a0 x1 M).bind fun q_1 => (nM q_1 ((sX11_bookAt a0 x2 M).bind fun q_3 => (nM q_3 (some (((-2), M))) fun m_4 => (some (((-2), M))))) fun m_2 => ((sX11_bookAt a0 x2 M).bind fun q_5 => (nM q_5 (some (((-2), M))) fun m_6 => (if wI x3 < 0 then (some (((-2), M))) else (if wI (sX5_has m_2 x4 M) = 0 then (some (((-2), M))) else ((sX6_runs (gR a0 4) m_2 m_6 x3 M).bind fun q_10 => (if wI (q_10.1) = wI x3 then ((sX6_answerOf (gR a0 4) x4 x5 q_10.2).bind fun q_13 => (some ((q_13, q_10.2)))) else (some (((-2), q_10.2)))))))))))
def sX11_did (a0 : Nat) (x1 : Int) (x2 : Int) (x3 : Int) (x4 : Int) (x5 : Int) (M : MM) : Option (Int × MM) := sX11_did_b0 a0 x1 x2 x3 x4 x5 M
set_option maxHeartbeats 4000000 in
set_option maxRecDepth 100000 in
theorem bX11_did_b0 {G : GG} (a0 : Nat) (x1 : Int) (x2 : Int) (x3 : Int) (x4 : Int) (x5 : Int) (oa0 : OB L0 a0 11)  (M : MM) {res : (Int × MM)}  (h : sX11_did_b0 a0 x1 x2 x3 x4 x5 M = some res) : VV G xX11_did (ZM G xX11_did (some (.int (eI res.1))) L0 res.2) L0 M 0 0 0 [(0, .ref (gA G a0)), (1, .int (eI x1)), (2, .int (eI x2)), (3, .int (eI x3)), (4, .int (eI x4)), (5, .int (eI x5))] [] := by
  unfold sX11_did_b0 at h
  refine r_aload_n (pc := 0) (i := 0) dX11_did_0 rfl 0 rfl ?_
  refine r_iload_n (pc := 1) (i := 1) dX11_did_1 rfl 1 rfl ?_
  obtain ⟨q_1, hq_1, h⟩ := ob h
  refine r_cV (pc := 2) (Y := xX11_partyAt) (As := [.int (eI x1)]) (rest := []) (v := (some (nV G q_1))) (st1 := [nV G q_1]) ck_X11_did_94 (kX11_partyAt a0 x1 M oa0 hq_1) oa0 rfl rfl rfl rfl (Nat.le_of_ble_eq_true rfl) ⟨rfl, rfl⟩ rfl dX11_did_2 ?_
  have oq_1 := nX11_partyAt _ _ _ oa0 hq_1
  rcases q_1 with _ | m_2
  · replace h := nM_z h
    refine r_stk (st' := [.null]) rfl ?_
    refine r_astoreN (pc := 5) (lv' := [(6, .null), (0, .ref (gA G a0)), (1, .int (eI x1)), (2, .int (eI x2)), (3, .int (eI x3)), (4, .int (eI x4)), (5, .int (eI x5))]) dX11_did_5 (Nat.le_of_ble_eq_true rfl) rfl ?_
    refine r_aload_n (pc := 7) (i := 0) dX11_did_7 rfl 1 rfl ?_
    refine r_iload_n (pc := 8) (i := 2) dX11_did_8 rfl 3 rfl ?_
    obtain ⟨q_3, hq_3, h⟩ := ob h
    refine r_cV (pc := 9) (Y := xX11_bookAt) (As := [.int (eI x2)]) (rest := []) (v := (some (nV G q_3))) (st1 := [nV G q_3]) ck_X11_did_111 (kX11_bookAt a0 x2 M oa0 hq_3) oa0 rfl rfl rfl rfl (Nat.le_of_ble_eq_true rfl) ⟨rfl, rfl⟩ rfl dX11_did_9 ?_
    have oq_3 := nX11_bookAt _ _ _ oa0 hq_3
    rcases q_3 with _ | m_4
    · replace h := nM_z h
      refine r_stk (st' := [.null]) rfl ?_
      refine r_astoreN (pc := 12) (lv' := [(7, .null), (6, .null), (0, .ref (gA G a0)), (1, .int (eI x1)), (2, .int (eI x2)), (3, .int (eI x3)), (4, .int (eI x4)), (5, .int (eI x5))]) dX11_did_12 (Nat.le_of_ble_eq_true rfl) rfl ?_
      refine r_aloadN (pc := 14) dX11_did_14 1 rfl ?_
      refine r_ifnullN (pc := 16) (tgt := 54) dX11_did_16 (by decide) ?_
      refine r_bipush (pc := 54) (v := (-2)) dX11_did_54 (by decide +kernel) ?_
      cases h
      exact r_iret (pc := 56) rfl rfl (Nat.le_refl 0) (Nat.le_refl 0) dX11_did_56
    · replace h := nM_s h
      have om_4 := oq_3 _ rfl
      refine r_stk (st' := [.ref (gA G m_4)]) rfl ?_
      refine r_astore (pc := 12) (lv' := [(7, .ref (gA G m_4)), (6, .null), (0, .ref (gA G a0)), (1, .int (eI x1)), (2, .int (eI x2)), (3, .int (eI x3)), (4, .int (eI x4)), (5, .int (eI x5))]) dX11_did_12 (Nat.le_of_ble_eq_true rfl) rfl ?_
      refine r_aloadN (pc := 14) dX11_did_14 1 rfl ?_
      refine r_ifnullN (pc := 16) (tgt := 54) dX11_did_16 (by decide) ?_
      refine r_bipush (pc := 54) (v := (-2)) dX11_did_54 (by decide +kernel) ?_
      cases h
      exact r_iret (pc := 56) rfl rfl (Nat.le_refl 0) (Nat.le_refl 0) dX11_did_56
  · replace h := nM_s h
    have om_2 := oq_1 _ rfl
    refine r_stk (st' := [.ref (gA G m_2)]) rfl ?_
    refine r_astore (pc := 5) (lv' := [(6, .ref (gA G m_2)), (0, .ref (gA G a0)), (1, .int (eI x1)), (2, .int (eI x2)), (3, .int (eI x3)), (4, .int (eI x4)), (5, .int (eI x5))]) dX11_did_5 (Nat.le_of_ble_eq_true rfl) rfl ?_
    refine r_aload_n (pc := 7) (i := 0) dX11_did_7 rfl 1 rfl ?_
    refine r_iload_n (pc := 8) (i := 2) dX11_did_8 rfl 3 rfl ?_
    obtain ⟨q_5, hq_5, h⟩ := ob h
    refine r_cV (pc := 9) (Y := xX11_bookAt) (As := [.int (eI x2)]) (rest := []) (v := (some (nV G q_5))) (st1 := [nV G q_5]) ck_X11_did_111 (kX11_bookAt a0 x2 M oa0 hq_5) oa0 rfl rfl rfl rfl (Nat.le_of_ble_eq_true rfl) ⟨rfl, rfl⟩ rfl dX11_did_9 ?_
    have oq_5 := nX11_bookAt _ _ _ oa0 hq_5
    rcases q_5 with _ | m_6
    · replace h := nM_z h
      refine r_stk (st' := [.null]) rfl ?_
      refine r_astoreN (pc := 12) (lv' := [(7, .null), (6, .ref (gA G m_2)), (0, .ref (gA G a0)), (1, .int (eI x1)), (2, .int (eI x2)), (3, .int (eI x3)), (4, .int (eI x4)), (5, .int (eI x5))]) dX11_did_12 (Nat.le_of_ble_eq_true rfl) rfl ?_
      refine r_aload (pc := 14) dX11_did_14 1 rfl ?_
      refine r_ifnullR (pc := 16) dX11_did_16 ?_
      refine r_aloadN (pc := 19) dX11_did_19 0 rfl ?_
      refine r_ifnullN (pc := 21) (tgt := 54) dX11_did_21 (by decide) ?_
      refine r_bipush (pc := 54) (v := (-2)) dX11_did_54 (by decide +kernel) ?_
      cases h
      exact r_iret (pc := 56) rfl rfl (Nat.le_refl 0) (Nat.le_refl 0) dX11_did_56
    · replace h := nM_s h
      have om_6 := oq_5 _ rfl
      refine r_stk (st' := [.ref (gA G m_6)]) rfl ?_
      refine r_astore (pc := 12) (lv' := [(7, .ref (gA G m_6)), (6, .ref (gA G m_2)), (0, .ref (gA G a0)), (1, .int (eI x1)), (2, .int (eI x2)), (3, .int (eI x3)), (4, .int (eI x4)), (5, .int (eI x5))]) dX11_did_12 (Nat.le_of_ble_eq_true rfl) rfl ?_
      refine r_aload (pc := 14) dX11_did_14 1 rfl ?_
      refine r_ifnullR (pc := 16) dX11_did_16 ?_
      refine r_aload (pc := 19) dX11_did_19 0 rfl ?_
      refine r_ifnullR (pc := 21) dX11_did_21 ?_
      refine r_iload_n (pc := 24) (i := 3) dX11_did_24 rfl 5 rfl ?_
      refine r_if_lt (pc := 25) (tgt := 54) dX11_did_25 (by decide) rfl (fun c_7 => ?_) (fun c_7 => ?_)
      · replace h := (if_pos c_7).symm.trans h
        refine r_bipush (pc := 54) (v := (-2)) dX11_did_54 (by decide +kernel) ?_
        cases h
        exact r_iret (pc := 56) rfl rfl (Nat.le_refl 0) (Nat.le_refl 0) dX11_did_56
      · replace h := (if_neg c_7).symm.trans h
        refine r_aload (pc := 28) dX11_did_28 1 rfl ?_
        refine r_iload (pc := 30) dX11_did_30 6 rfl ?_
        refine r_cV (pc := 32) (Y := xX5_has) (As := [.int (eI x4)]) (rest := []) (v := (some (.int (eI (sX5_has m_2 x4 M))))) (st1 := [.int (eI (sX5_has m_2 x4 M))]) ck_X11_did_104 (kX5_has m_2 x4 M om_2) om_2 rfl rfl rfl rfl (Nat.le_of_ble_eq_true rfl) ⟨rfl, rfl⟩ rfl dX11_did_32 ?_
        refine r_if_eq (pc := 35) (tgt := 54) dX11_did_35 (by decide) rfl (fun c_8 => ?_) (fun c_8 => ?_)
        · replace h := (if_pos c_8).symm.trans h
          refine r_bipush (pc := 54) (v := (-2)) dX11_did_54 (by decide +kernel) ?_
          cases h
          exact r_iret (pc := 56) rfl rfl (Nat.le_refl 0) (Nat.le_refl 0) dX11_did_56
        · replace h := (if_neg c_8).symm.trans h
          refine r_aload_n (pc := 38) (i := 0) dX11_did_38 rfl 2 rfl ?_
          have o_9 := (wt_11_4 oa0).2
          refine r_getR (pc := 39) fg_11_34 rfl oa0 (wt_11_4 oa0).1 dX11_did_39 ?_
          refine r_aload (pc := 42) dX11_did_42 1 rfl ?_
          refine r_aload (pc := 44) dX11_did_44 0 rfl ?_
          refine r_iload_n (pc := 46) (i := 3) dX11_did_46 rfl 5 rfl ?_
          obtain ⟨q_10, hq_10, h⟩ := ob h
          refine r_cV (pc := 47) (Y := xX6_runs) (As := [.ref (gA G m_2), .ref (gA G m_6), .int (eI x3)]) (rest := []) (v := (some (.int (eI (q_10.1))))) (st1 := [.int (eI (q_10.1))]) ck_X11_did_122 (kX6_runs (gR a0 4) m_2 m_6 x3 M o_9 om_2 om_6 hq_10) o_9 rfl rfl rfl rfl (Nat.le_of_ble_eq_true rfl) ⟨rfl, rfl⟩ rfl dX11_did_47 ?_
          refine r_iload_n (pc := 50) (i := 3) dX11_did_50 rfl 5 rfl ?_
          refine r_icmp_eq (pc := 51) (tgt := 57) dX11_did_51 (by decide) rfl rfl (fun c_11 => ?_) (fun c_11 => ?_)
          · replace h := (if_pos c_11).symm.trans h
            refine r_aload_n (pc := 57) (i := 0) dX11_did_57 rfl 2 rfl ?_
            have o_12 := (wt_11_4 oa0).2
            refine r_getR (pc := 58) fg_11_34 rfl oa0 (wt_11_4 oa0).1 dX11_did_58 ?_
            refine r_iload (pc := 61) dX11_did_61 6 rfl ?_
            refine r_iload (pc := 63) dX11_did_63 7 rfl ?_
            obtain ⟨q_13, hq_13, h⟩ := ob h
            refine r_cV (pc := 65) (Y := xX6_answerOf) (As := [.int (eI x4), .int (eI x5)]) (rest := []) (v := (some (.int (eI q_13)))) (st1 := [.int (eI q_13)]) ck_X11_did_129 (kX6_answerOf (gR a0 4) x4 x5 q_10.2 o_12 hq_13) o_12 rfl rfl rfl rfl (Nat.le_of_ble_eq_true rfl) ⟨rfl, rfl⟩ rfl dX11_did_65 ?_
            cases h
            exact r_iret (pc := 68) rfl rfl (Nat.le_refl 0) (Nat.le_refl 0) dX11_did_68
          · replace h := (if_neg c_11).symm.trans h
            refine r_bipush (pc := 54) (v := (-2)) dX11_did_54 (by decide +kernel) ?_
            cases h
            exact r_iret (pc := 56) rfl rfl (Nat.le_refl 0) (Nat.le_refl 0) dX11_did_56
theorem kX11_did {G : GG} (a0 : Nat) (x1 : Int) (x2 : Int) (x3 : Int) (x4 : Int) (x5 : Int) (M : MM) {res : (Int × MM)} (oa0 : OB L0 a0 11) (h : sX11_did a0 x1 x2 x3 x4 x5 M = some res) : CO G xX11_did [.ref (gA G a0), .int (eI x1), .int (eI x2), .int (eI x3), .int (eI x4), .int (eI x5)] L0 M (some (.int (eI res.1))) L0 res.2 := CO_of (by decide +kernel) (Nat.le_of_ble_eq_true rfl) (bX11_did_b0 a0 x1 x2 x3 x4 x5 oa0 M h)
abbrev xX11_span : XX := (yX11_span, cX11_span, 6, (some .int), 6, 142, 0, 0)
theorem ck_X11_span_94 : CKV xX11_span 94 xX11_partyAt 1 := ⟨⟨tb_i 866 (by decide +kernel) (by decide +kernel), tb_i 139 (by decide +kernel) (by decide +kernel), tb_i 869 (by decide +kernel) (by decide +kernel), ⟨by decide +kernel, by decide +kernel, by decide +kernel⟩, by decide, by decide⟩, tb_i 868 (by decide +kernel) (by decide +kernel), tb_i 13 (by decide +kernel) (by decide +kernel)⟩
theorem ck_X11_span_111 : CKV xX11_span 111 xX11_bookAt 1 := ⟨⟨tb_i 895 (by decide +kernel) (by decide +kernel), tb_i 139 (by decide +kernel) (by decide +kernel), tb_i 898 (by decide +kernel) (by decide +kernel), ⟨by decide +kernel, by decide +kernel, by decide +kernel⟩, by decide, by decide⟩, tb_i 897 (by decide +kernel) (by decide +kernel), tb_i 14 (by decide +kernel) (by decide +kernel)⟩
theorem ck_X11_span_122 : CKV xX11_span 122 xX6_runs 3 := ⟨⟨tb_i 907 (by decide +kernel) (by decide +kernel), tb_i 147 (by decide +kernel) (by decide +kernel), tb_i 910 (by decide +kernel) (by decide +kernel), ⟨by decide +kernel, by decide +kernel, by decide +kernel⟩, by decide, by decide⟩, tb_i 908 (by decide +kernel) (by decide +kernel), tb_i 909 (by decide +kernel) (by decide +kernel)⟩
theorem ck_X11_span_130 : CKV xX11_span 130 xX6_mostBelly 0 := ⟨⟨tb_i 977 (by decide +kernel) (by decide +kernel), tb_i 147 (by decide +kernel) (by decide +kernel), tb_i 980 (by decide +kernel) (by decide +kernel), ⟨by decide +kernel, by decide +kernel, by decide +kernel⟩, by decide, by decide⟩, tb_i 978 (by decide +kernel) (by decide +kernel), tb_i 979 (by decide +kernel) (by decide +kernel)⟩
theorem ck_X11_span_134 : CKV xX11_span 134 xX6_leastBelly 0 := ⟨⟨tb_i 981 (by decide +kernel) (by decide +kernel), tb_i 147 (by decide +kernel) (by decide +kernel), tb_i 984 (by decide +kernel) (by decide +kernel), ⟨by decide +kernel, by decide +kernel, by decide +kernel⟩, by decide, by decide⟩, tb_i 982 (by decide +kernel) (by decide +kernel), tb_i 983 (by decide +kernel) (by decide +kernel)⟩
def sX11_span_b0 (a0 : Nat) (x1 : Int) (x2 : Int) (x3 : Int)   (M : MM) : Option (Int × MM) := ((sX11_partyAt a0 x1 M).bind fun q_1 => (nM q_1 ((sX11_bookAt a0 x2 M).bind fun q_3 => (nM q_3 (some (((-1), M))) fun m_4 => (some (((-1), M))))) fun m_2 => ((sX11_bookAt a0 x2 M).bind fun q_5 => (nM q_5 (some (((-1), M))) fun m_6 => ((sX6_runs (gR a0 4) m_2 m_6 (M m_6 4) M).bind fun q_8 => (if wI x3 = 0 then (some (((sX6_leastBelly (gR a0 4) q_8.2), q_8.2))) else (some (((sX6_mostBelly (gR a0 4) q_8.2), q_8.2)))))))))
def sX11_span (a0 : Nat) (x1 : Int) (x2 : Int) (x3 : Int) (M : MM) : Option (Int × MM) := sX11_span_b0 a0 x1 x2 x3 M
set_option maxHeartbeats 4000000 in
set_option maxRecDepth 100000 in
theorem bX11_span_b0 {G : GG} (a0 : Nat) (x1 : Int) (x2 : Int) (x3 : Int) (oa0 : OB L0 a0 11)  (M : MM) {res : (Int × MM)}  (h : sX11_span_b0 a0 x1 x2 x3 M = some res) : VV G xX11_span (ZM G xX11_span (some (.int (eI res.1))) L0 res.2) L0 M 0 0 0 [(0, .ref (gA G a0)), (1, .int (eI x1)), (2, .int (eI x2)), (3, .int (eI x3))] [] := by
  unfold sX11_span_b0 at h
  refine r_aload_n (pc := 0) (i := 0) dX11_span_0 rfl 0 rfl ?_
  refine r_iload_n (pc := 1) (i := 1) dX11_span_1 rfl 1 rfl ?_
  obtain ⟨q_1, hq_1, h⟩ := ob h
  refine r_cV (pc := 2) (Y := xX11_partyAt) (As := [.int (eI x1)]) (rest := []) (v := (some (nV G q_1))) (st1 := [nV G q_1]) ck_X11_span_94 (kX11_partyAt a0 x1 M oa0 hq_1) oa0 rfl rfl rfl rfl (Nat.le_of_ble_eq_true rfl) ⟨rfl, rfl⟩ rfl dX11_span_2 ?_
  have oq_1 := nX11_partyAt _ _ _ oa0 hq_1
  rcases q_1 with _ | m_2
  · replace h := nM_z h
    refine r_stk (st' := [.null]) rfl ?_
    refine r_astoreN (pc := 5) (lv' := [(4, .null), (0, .ref (gA G a0)), (1, .int (eI x1)), (2, .int (eI x2)), (3, .int (eI x3))]) dX11_span_5 (Nat.le_of_ble_eq_true rfl) rfl ?_
    refine r_aload_n (pc := 7) (i := 0) dX11_span_7 rfl 1 rfl ?_
    refine r_iload_n (pc := 8) (i := 2) dX11_span_8 rfl 3 rfl ?_
    obtain ⟨q_3, hq_3, h⟩ := ob h
    refine r_cV (pc := 9) (Y := xX11_bookAt) (As := [.int (eI x2)]) (rest := []) (v := (some (nV G q_3))) (st1 := [nV G q_3]) ck_X11_span_111 (kX11_bookAt a0 x2 M oa0 hq_3) oa0 rfl rfl rfl rfl (Nat.le_of_ble_eq_true rfl) ⟨rfl, rfl⟩ rfl dX11_span_9 ?_
    have oq_3 := nX11_bookAt _ _ _ oa0 hq_3
    rcases q_3 with _ | m_4
    · replace h := nM_z h
      refine r_stk (st' := [.null]) rfl ?_
      refine r_astoreN (pc := 12) (lv' := [(5, .null), (4, .null), (0, .ref (gA G a0)), (1, .int (eI x1)), (2, .int (eI x2)), (3, .int (eI x3))]) dX11_span_12 (Nat.le_of_ble_eq_true rfl) rfl ?_
      refine r_aloadN (pc := 14) dX11_span_14 1 rfl ?_
      refine r_ifnullN (pc := 16) (tgt := 24) dX11_span_16 (by decide) ?_
      refine r_iconst (pc := 24) (v := (-1)) dX11_span_24 (by decide +kernel) ?_
      cases h
      exact r_iret (pc := 25) rfl rfl (Nat.le_refl 0) (Nat.le_refl 0) dX11_span_25
    · replace h := nM_s h
      have om_4 := oq_3 _ rfl
      refine r_stk (st' := [.ref (gA G m_4)]) rfl ?_
      refine r_astore (pc := 12) (lv' := [(5, .ref (gA G m_4)), (4, .null), (0, .ref (gA G a0)), (1, .int (eI x1)), (2, .int (eI x2)), (3, .int (eI x3))]) dX11_span_12 (Nat.le_of_ble_eq_true rfl) rfl ?_
      refine r_aloadN (pc := 14) dX11_span_14 1 rfl ?_
      refine r_ifnullN (pc := 16) (tgt := 24) dX11_span_16 (by decide) ?_
      refine r_iconst (pc := 24) (v := (-1)) dX11_span_24 (by decide +kernel) ?_
      cases h
      exact r_iret (pc := 25) rfl rfl (Nat.le_refl 0) (Nat.le_refl 0) dX11_span_25
  · replace h := nM_s h
    have om_2 := oq_1 _ rfl
    refine r_stk (st' := [.ref (gA G m_2)]) rfl ?_
    refine r_astore (pc := 5) (lv' := [(4, .ref (gA G m_2)), (0, .ref (gA G a0)), (1, .int (eI x1)), (2, .int (eI x2)), (3, .int (eI x3))]) dX11_span_5 (Nat.le_of_ble_eq_true rfl) rfl ?_
    refine r_aload_n (pc := 7) (i := 0) dX11_span_7 rfl 1 rfl ?_
    refine r_iload_n (pc := 8) (i := 2) dX11_span_8 rfl 3 rfl ?_
    obtain ⟨q_5, hq_5, h⟩ := ob h
    refine r_cV (pc := 9) (Y := xX11_bookAt) (As := [.int (eI x2)]) (rest := []) (v := (some (nV G q_5))) (st1 := [nV G q_5]) ck_X11_span_111 (kX11_bookAt a0 x2 M oa0 hq_5) oa0 rfl rfl rfl rfl (Nat.le_of_ble_eq_true rfl) ⟨rfl, rfl⟩ rfl dX11_span_9 ?_
    have oq_5 := nX11_bookAt _ _ _ oa0 hq_5
    rcases q_5 with _ | m_6
    · replace h := nM_z h
      refine r_stk (st' := [.null]) rfl ?_
      refine r_astoreN (pc := 12) (lv' := [(5, .null), (4, .ref (gA G m_2)), (0, .ref (gA G a0)), (1, .int (eI x1)), (2, .int (eI x2)), (3, .int (eI x3))]) dX11_span_12 (Nat.le_of_ble_eq_true rfl) rfl ?_
      refine r_aload (pc := 14) dX11_span_14 1 rfl ?_
      refine r_ifnullR (pc := 16) dX11_span_16 ?_
      refine r_aloadN (pc := 19) dX11_span_19 0 rfl ?_
      refine r_ifnonnullN (pc := 21) dX11_span_21 ?_
      refine r_iconst (pc := 24) (v := (-1)) dX11_span_24 (by decide +kernel) ?_
      cases h
      exact r_iret (pc := 25) rfl rfl (Nat.le_refl 0) (Nat.le_refl 0) dX11_span_25
    · replace h := nM_s h
      have om_6 := oq_5 _ rfl
      refine r_stk (st' := [.ref (gA G m_6)]) rfl ?_
      refine r_astore (pc := 12) (lv' := [(5, .ref (gA G m_6)), (4, .ref (gA G m_2)), (0, .ref (gA G a0)), (1, .int (eI x1)), (2, .int (eI x2)), (3, .int (eI x3))]) dX11_span_12 (Nat.le_of_ble_eq_true rfl) rfl ?_
      refine r_aload (pc := 14) dX11_span_14 1 rfl ?_
      refine r_ifnullR (pc := 16) dX11_span_16 ?_
      refine r_aload (pc := 19) dX11_span_19 0 rfl ?_
      refine r_ifnonnullR (pc := 21) (tgt := 26) dX11_span_21 (by decide) ?_
      refine r_aload_n (pc := 26) (i := 0) dX11_span_26 rfl 2 rfl ?_
      have o_7 := (wt_11_4 oa0).2
      refine r_getR (pc := 27) fg_11_34 rfl oa0 (wt_11_4 oa0).1 dX11_span_27 ?_
      refine r_aload (pc := 30) dX11_span_30 1 rfl ?_
      refine r_aload (pc := 32) dX11_span_32 0 rfl ?_
      refine r_aload (pc := 34) dX11_span_34 0 rfl ?_
      refine r_getI (pc := 36) fg_11_115 rfl om_6 dX11_span_36 ?_
      obtain ⟨q_8, hq_8, h⟩ := ob h
      refine r_cV (pc := 39) (Y := xX6_runs) (As := [.ref (gA G m_2), .ref (gA G m_6), .int (eI (M m_6 4))]) (rest := []) (v := (some (.int (eI (q_8.1))))) (st1 := [.int (eI (q_8.1))]) ck_X11_span_122 (kX6_runs (gR a0 4) m_2 m_6 (M m_6 4) M o_7 om_2 om_6 hq_8) o_7 rfl rfl rfl rfl (Nat.le_of_ble_eq_true rfl) ⟨rfl, rfl⟩ rfl dX11_span_39 ?_
      refine r_pop (pc := 42) dX11_span_42 rfl ?_
      refine r_iload_n (pc := 43) (i := 3) dX11_span_43 rfl 5 rfl ?_
      refine r_if_eq (pc := 44) (tgt := 57) dX11_span_44 (by decide) rfl (fun c_9 => ?_) (fun c_9 => ?_)
      · replace h := (if_pos c_9).symm.trans h
        refine r_aload_n (pc := 57) (i := 0) dX11_span_57 rfl 2 rfl ?_
        have o_10 := (wt_11_4 oa0).2
        refine r_getR (pc := 58) fg_11_34 rfl oa0 (wt_11_4 oa0).1 dX11_span_58 ?_
        refine r_cV (pc := 61) (Y := xX6_leastBelly) (As := []) (rest := []) (v := (some (.int (eI (sX6_leastBelly (gR a0 4) q_8.2))))) (st1 := [.int (eI (sX6_leastBelly (gR a0 4) q_8.2))]) ck_X11_span_134 (kX6_leastBelly (gR a0 4) q_8.2 o_10) o_10 rfl rfl rfl rfl (Nat.le_of_ble_eq_true rfl) ⟨rfl, rfl⟩ rfl dX11_span_61 ?_
        cases h
        exact r_iret (pc := 64) rfl rfl (Nat.le_refl 0) (Nat.le_refl 0) dX11_span_64
      · replace h := (if_neg c_9).symm.trans h
        refine r_aload_n (pc := 47) (i := 0) dX11_span_47 rfl 2 rfl ?_
        have o_11 := (wt_11_4 oa0).2
        refine r_getR (pc := 48) fg_11_34 rfl oa0 (wt_11_4 oa0).1 dX11_span_48 ?_
        refine r_cV (pc := 51) (Y := xX6_mostBelly) (As := []) (rest := []) (v := (some (.int (eI (sX6_mostBelly (gR a0 4) q_8.2))))) (st1 := [.int (eI (sX6_mostBelly (gR a0 4) q_8.2))]) ck_X11_span_130 (kX6_mostBelly (gR a0 4) q_8.2 o_11) o_11 rfl rfl rfl rfl (Nat.le_of_ble_eq_true rfl) ⟨rfl, rfl⟩ rfl dX11_span_51 ?_
        refine r_goto (pc := 54) (tgt := 64) dX11_span_54 (by decide) ?_
        cases h
        exact r_iret (pc := 64) rfl rfl (Nat.le_refl 0) (Nat.le_refl 0) dX11_span_64
theorem kX11_span {G : GG} (a0 : Nat) (x1 : Int) (x2 : Int) (x3 : Int) (M : MM) {res : (Int × MM)} (oa0 : OB L0 a0 11) (h : sX11_span a0 x1 x2 x3 M = some res) : CO G xX11_span [.ref (gA G a0), .int (eI x1), .int (eI x2), .int (eI x3)] L0 M (some (.int (eI res.1))) L0 res.2 := CO_of (by decide +kernel) (Nat.le_of_ble_eq_true rfl) (bX11_span_b0 a0 x1 x2 x3 oa0 M h)
abbrev xX11_cluesAt : XX := (yX11_cluesAt, cX11_cluesAt, 2, (some (.object "PaperDonkey$Clues")), 0, 0, 0, 0)
def sX11_cluesAt_b0 (a0 : Nat) (x1 : Int) (M : MM)   : Option Nat := (if wI x1 < 0 then (some ((0))) else (if wI (M (gR (gR a0 0) 4) 2) ≤ wI x1 then (some ((0))) else (if 0 ≤ wI x1 ∧ wI x1 < 2 then (some (((gR (gR (gR a0 0) 7) (wI x1).toNat) + 1))) else none)))
def sX11_cluesAt (a0 : Nat) (x1 : Int) (M : MM) : Option Nat := sX11_cluesAt_b0 a0 x1 M
set_option maxHeartbeats 4000000 in
set_option maxRecDepth 100000 in
theorem bX11_cluesAt_b0 {G : GG} (a0 : Nat) (x1 : Int) (M : MM) (oa0 : OB L0 a0 11)  {res : Nat}  (h : sX11_cluesAt_b0 a0 x1 M = some res) : VV G xX11_cluesAt (ZM G xX11_cluesAt (some (nV G res)) L0 M) L0 M 0 0 0 [(0, .ref (gA G a0)), (1, .int (eI x1))] [] := by
  unfold sX11_cluesAt_b0 at h
  refine r_iload_n (pc := 0) (i := 1) dX11_cluesAt_0 rfl 1 rfl ?_
  refine r_if_lt (pc := 1) (tgt := 29) dX11_cluesAt_1 (by decide) rfl (fun c_1 => ?_) (fun c_1 => ?_)
  · replace h := (if_pos c_1).symm.trans h
    refine r_null (pc := 29) dX11_cluesAt_29 ?_
    refine r_stk (st' := [nV G (0)]) rfl ?_
    cases h
    exact r_aret (pc := 30) rfl (nV_or _) (Nat.le_refl 0) (Nat.le_refl 0) dX11_cluesAt_30
  · replace h := (if_neg c_1).symm.trans h
    refine r_iload_n (pc := 4) (i := 1) dX11_cluesAt_4 rfl 1 rfl ?_
    refine r_aload_n (pc := 5) (i := 0) dX11_cluesAt_5 rfl 0 rfl ?_
    have o_2 := (wt_11_0 oa0).2
    refine r_getR (pc := 6) fg_11_10 rfl oa0 (wt_11_0 oa0).1 dX11_cluesAt_6 ?_
    have o_3 := (wt_9_4 o_2).2
    refine r_getR (pc := 9) fg_11_317 rfl o_2 (wt_9_4 o_2).1 dX11_cluesAt_9 ?_
    refine r_iconst (pc := 12) (v := 2) dX11_cluesAt_12 (by decide +kernel) ?_
    refine r_iald (pc := 13) o_3 wl_2 ⟨by decide, by decide⟩ rfl dX11_cluesAt_13 ?_
    refine r_icmp_ge (pc := 14) (tgt := 29) dX11_cluesAt_14 (by decide) rfl rfl (fun c_4 => ?_) (fun c_4 => ?_)
    · replace h := (if_pos c_4).symm.trans h
      refine r_null (pc := 29) dX11_cluesAt_29 ?_
      refine r_stk (st' := [nV G (0)]) rfl ?_
      cases h
      exact r_aret (pc := 30) rfl (nV_or _) (Nat.le_refl 0) (Nat.le_refl 0) dX11_cluesAt_30
    · replace h := (if_neg c_4).symm.trans h
      refine r_aload_n (pc := 17) (i := 0) dX11_cluesAt_17 rfl 0 rfl ?_
      have o_5 := (wt_11_0 oa0).2
      refine r_getR (pc := 18) fg_11_10 rfl oa0 (wt_11_0 oa0).1 dX11_cluesAt_18 ?_
      have o_6 := (wt_9_7 o_5).2
      refine r_getR (pc := 21) fg_11_344 rfl o_5 (wt_9_7 o_5).1 dX11_cluesAt_21 ?_
      refine r_iload_n (pc := 24) (i := 1) dX11_cluesAt_24 rfl 1 rfl ?_
      obtain ⟨c_7, h⟩ := og h
      have o_8 := (wa_5 o_6 c_7).2
      refine r_aald5 (pc := 25) o_6 rfl c_7 rfl (wa_5 o_6 c_7).1 dX11_cluesAt_25 ?_
      refine r_goto (pc := 26) (tgt := 30) dX11_cluesAt_26 (by decide) ?_
      refine r_stk (st' := [nV G ((gR (gR (gR a0 0) 7) (wI x1).toNat) + 1)]) rfl ?_
      cases h
      exact r_aret (pc := 30) rfl (nV_or _) (Nat.le_refl 0) (Nat.le_refl 0) dX11_cluesAt_30
theorem kX11_cluesAt {G : GG} (a0 : Nat) (x1 : Int) (M : MM) {res : Nat} (oa0 : OB L0 a0 11) (h : sX11_cluesAt a0 x1 M = some res) : CO G xX11_cluesAt [.ref (gA G a0), .int (eI x1)] L0 M (some (nV G res)) L0 M := CO_of (by decide +kernel) (Nat.le_of_ble_eq_true rfl) (bX11_cluesAt_b0 a0 x1 M oa0 h)
theorem nX11_cluesAt (a0 : Nat) (x1 : Int) (M : MM) {res : Nat} (oa0 : OB L0 a0 11) (h : sX11_cluesAt a0 x1 M = some res) : ∀ m, res = m + 1 → OB L0 m 1 := by
  unfold sX11_cluesAt sX11_cluesAt_b0 at h
  split at h
  · cases h; exact nf_0
  · split at h
    · cases h; exact nf_0
    · obtain ⟨c, h⟩ := og h
      cases h
      exact nf_s (wa_5 (wt_9_7 (wt_11_0 oa0).2).2 c).2
abbrev xX11_clue : XX := (yX11_clue, cX11_clue, 5, (some .int), 1, 22, 0, 0)
theorem ck_X11_clue_120 : CKV xX11_clue 120 xX3_answer 2 := ⟨⟨tb_i 899 (by decide +kernel) (by decide +kernel), tb_i 142 (by decide +kernel) (by decide +kernel), tb_i 902 (by decide +kernel) (by decide +kernel), ⟨by decide +kernel, by decide +kernel, by decide +kernel⟩, by decide, by decide⟩, tb_i 900 (by decide +kernel) (by decide +kernel), tb_i 901 (by decide +kernel) (by decide +kernel)⟩
theorem ck_X11_clue_137 : CKV xX11_clue 137 xX11_cluesAt 1 := ⟨⟨tb_i 989 (by decide +kernel) (by decide +kernel), tb_i 139 (by decide +kernel) (by decide +kernel), tb_i 992 (by decide +kernel) (by decide +kernel), ⟨by decide +kernel, by decide +kernel, by decide +kernel⟩, by decide, by decide⟩, tb_i 991 (by decide +kernel) (by decide +kernel), tb_i 24 (by decide +kernel) (by decide +kernel)⟩
def sX11_clue_b0 (a0 : Nat) (x1 : Int) (x2 : Int) (x3 : Int) (M : MM)   : Option Int := ((sX11_cluesAt a0 x1 M).bind fun q_1 => (nM q_1 (some ((-2))) fun m_2 => (if wI x2 = (-1) then (if wI x3 = 0 then (some ((M (gR m_2 0) 4))) else (if wI x3 < 10 then (some ((-2))) else (if 18 ≤ wI x3 then (some ((-2))) else (if 0 ≤ wI (x3 - 10) ∧ wI (x3 - 10) < 8 then (some ((M (gR m_2 1) (wI (x3 - 10)).toNat))) else none)))) else ((sX3_answer (gR m_2 0) x2 x3 M).bind fun q_11 => (some (q_11))))))
def sX11_clue (a0 : Nat) (x1 : Int) (x2 : Int) (x3 : Int) (M : MM) : Option Int := sX11_clue_b0 a0 x1 x2 x3 M
set_option maxHeartbeats 4000000 in
set_option maxRecDepth 100000 in
theorem bX11_clue_b0 {G : GG} (a0 : Nat) (x1 : Int) (x2 : Int) (x3 : Int) (M : MM) (oa0 : OB L0 a0 11)  {res : Int}  (h : sX11_clue_b0 a0 x1 x2 x3 M = some res) : VV G xX11_clue (ZM G xX11_clue (some (.int (eI res))) L0 M) L0 M 0 0 0 [(0, .ref (gA G a0)), (1, .int (eI x1)), (2, .int (eI x2)), (3, .int (eI x3))] [] := by
  unfold sX11_clue_b0 at h
  refine r_aload_n (pc := 0) (i := 0) dX11_clue_0 rfl 0 rfl ?_
  refine r_iload_n (pc := 1) (i := 1) dX11_clue_1 rfl 1 rfl ?_
  obtain ⟨q_1, hq_1, h⟩ := ob h
  refine r_cV (pc := 2) (Y := xX11_cluesAt) (As := [.int (eI x1)]) (rest := []) (v := (some (nV G q_1))) (st1 := [nV G q_1]) ck_X11_clue_137 (kX11_cluesAt a0 x1 M oa0 hq_1) oa0 rfl rfl rfl rfl (Nat.le_of_ble_eq_true rfl) ⟨rfl, rfl⟩ rfl dX11_clue_2 ?_
  have oq_1 := nX11_cluesAt _ _ _ oa0 hq_1
  rcases q_1 with _ | m_2
  · replace h := nM_z h
    refine r_stk (st' := [.null]) rfl ?_
    refine r_astoreN (pc := 5) (lv' := [(4, .null), (0, .ref (gA G a0)), (1, .int (eI x1)), (2, .int (eI x2)), (3, .int (eI x3))]) dX11_clue_5 (Nat.le_of_ble_eq_true rfl) rfl ?_
    refine r_aloadN (pc := 7) dX11_clue_7 0 rfl ?_
    refine r_ifnonnullN (pc := 9) dX11_clue_9 ?_
    refine r_bipush (pc := 12) (v := (-2)) dX11_clue_12 (by decide +kernel) ?_
    cases h
    exact r_iret (pc := 14) rfl rfl (Nat.le_refl 0) (Nat.le_refl 0) dX11_clue_14
  · replace h := nM_s h
    have om_2 := oq_1 _ rfl
    refine r_stk (st' := [.ref (gA G m_2)]) rfl ?_
    refine r_astore (pc := 5) (lv' := [(4, .ref (gA G m_2)), (0, .ref (gA G a0)), (1, .int (eI x1)), (2, .int (eI x2)), (3, .int (eI x3))]) dX11_clue_5 (Nat.le_of_ble_eq_true rfl) rfl ?_
    refine r_aload (pc := 7) dX11_clue_7 0 rfl ?_
    refine r_ifnonnullR (pc := 9) (tgt := 15) dX11_clue_9 (by decide) ?_
    refine r_iload_n (pc := 15) (i := 2) dX11_clue_15 rfl 3 rfl ?_
    refine r_iconst (pc := 16) (v := (-1)) dX11_clue_16 (by decide +kernel) ?_
    refine r_icmp_eq (pc := 17) (tgt := 31) dX11_clue_17 (by decide) rfl wl_m1 (fun c_3 => ?_) (fun c_3 => ?_)
    · replace h := (if_pos c_3).symm.trans h
      refine r_iload_n (pc := 31) (i := 3) dX11_clue_31 rfl 4 rfl ?_
      refine r_if_ne (pc := 32) (tgt := 44) dX11_clue_32 (by decide) rfl (fun c_4 => ?_) (fun c_4 => ?_)
      · replace h := (if_neg c_4).symm.trans h
        refine r_iload_n (pc := 44) (i := 3) dX11_clue_44 rfl 4 rfl ?_
        refine r_bipush (pc := 45) (v := 10) dX11_clue_45 (by decide +kernel) ?_
        refine r_icmp_lt (pc := 47) (tgt := 69) dX11_clue_47 (by decide) rfl wl_10 (fun c_5 => ?_) (fun c_5 => ?_)
        · replace h := (if_pos c_5).symm.trans h
          refine r_bipush (pc := 69) (v := (-2)) dX11_clue_69 (by decide +kernel) ?_
          cases h
          exact r_iret (pc := 71) rfl rfl (Nat.le_refl 0) (Nat.le_refl 0) dX11_clue_71
        · replace h := (if_neg c_5).symm.trans h
          refine r_iload_n (pc := 50) (i := 3) dX11_clue_50 rfl 4 rfl ?_
          refine r_bipush (pc := 51) (v := 18) dX11_clue_51 (by decide +kernel) ?_
          refine r_icmp_ge (pc := 53) (tgt := 69) dX11_clue_53 (by decide) rfl wl_18 (fun c_6 => ?_) (fun c_6 => ?_)
          · replace h := (if_pos c_6).symm.trans h
            refine r_bipush (pc := 69) (v := (-2)) dX11_clue_69 (by decide +kernel) ?_
            cases h
            exact r_iret (pc := 71) rfl rfl (Nat.le_refl 0) (Nat.le_refl 0) dX11_clue_71
          · replace h := (if_neg c_6).symm.trans h
            refine r_aload (pc := 56) dX11_clue_56 0 rfl ?_
            have o_7 := (wt_1_1 om_2).2
            refine r_getR (pc := 58) fg_11_147 rfl om_2 (wt_1_1 om_2).1 dX11_clue_58 ?_
            refine r_iload_n (pc := 61) (i := 3) dX11_clue_61 rfl 4 rfl ?_
            refine r_bipush (pc := 62) (v := 10) dX11_clue_62 (by decide +kernel) ?_
            refine r_isub (pc := 64) dX11_clue_64 ?_
            obtain ⟨c_8, h⟩ := og h
            refine r_iald (pc := 65) o_7 rfl c_8 rfl dX11_clue_65 ?_
            refine r_goto (pc := 66) (tgt := 71) dX11_clue_66 (by decide) ?_
            cases h
            exact r_iret (pc := 71) rfl rfl (Nat.le_refl 0) (Nat.le_refl 0) dX11_clue_71
      · replace h := (if_pos c_4).symm.trans h
        refine r_aload (pc := 35) dX11_clue_35 0 rfl ?_
        have o_9 := (wt_1_0 om_2).2
        refine r_getR (pc := 37) fg_11_141 rfl om_2 (wt_1_0 om_2).1 dX11_clue_37 ?_
        refine r_getI (pc := 40) fg_11_115 rfl o_9 dX11_clue_40 ?_
        cases h
        exact r_iret (pc := 43) rfl rfl (Nat.le_refl 0) (Nat.le_refl 0) dX11_clue_43
    · replace h := (if_neg c_3).symm.trans h
      refine r_aload (pc := 20) dX11_clue_20 0 rfl ?_
      have o_10 := (wt_1_0 om_2).2
      refine r_getR (pc := 22) fg_11_141 rfl om_2 (wt_1_0 om_2).1 dX11_clue_22 ?_
      refine r_iload_n (pc := 25) (i := 2) dX11_clue_25 rfl 3 rfl ?_
      refine r_iload_n (pc := 26) (i := 3) dX11_clue_26 rfl 4 rfl ?_
      obtain ⟨q_11, hq_11, h⟩ := ob h
      refine r_cV (pc := 27) (Y := xX3_answer) (As := [.int (eI x2), .int (eI x3)]) (rest := []) (v := (some (.int (eI q_11)))) (st1 := [.int (eI q_11)]) ck_X11_clue_120 (kX3_answer (gR m_2 0) x2 x3 M o_10 hq_11) o_10 rfl rfl rfl rfl (Nat.le_of_ble_eq_true rfl) ⟨rfl, rfl⟩ rfl dX11_clue_27 ?_
      cases h
      exact r_iret (pc := 30) rfl rfl (Nat.le_refl 0) (Nat.le_refl 0) dX11_clue_30
theorem kX11_clue {G : GG} (a0 : Nat) (x1 : Int) (x2 : Int) (x3 : Int) (M : MM) {res : Int} (oa0 : OB L0 a0 11) (h : sX11_clue a0 x1 x2 x3 M = some res) : CO G xX11_clue [.ref (gA G a0), .int (eI x1), .int (eI x2), .int (eI x3)] L0 M (some (.int (eI res))) L0 M := CO_of (by decide +kernel) (Nat.le_of_ble_eq_true rfl) (bX11_clue_b0 a0 x1 x2 x3 M oa0 h)
abbrev xX11_commonOf : XX := (yX11_commonOf, cX11_commonOf, 11, (some .long), 0, 0, 0, 0)
def sX11_commonOf_b44 (y0 : Int) (y2 : Int)  (y4 : Int) : Option Int := (some (y4))
def sX11_commonOf_b9 (y0 : Int) (y2 : Int)  : Nat → Int → Int → Int → Option Int
  | 0, _, _, _ => none
  | n + 1, y4, y6, x8 => (if 100 ≤ wI x8 then (sX11_commonOf_b44 y0 y2 y4) else (if wJ y6 = 0 then (sX11_commonOf_b44 y0 y2 y4) else (if wJ y6 ≠ 0 then ((some (x8 + 1)).bind fun v_4 => (sX11_commonOf_b9 y0 y2 n y6 (Int.tmod (wJ y4) (wJ y6)) v_4)) else none)))
def sX11_commonOf_b0 (y0 : Int) (y2 : Int)   : Option Int := (sX11_commonOf_b9 y0 y2 FU y0 y2 0)
def sX11_commonOf (y0 : Int) (y2 : Int) : Option Int := sX11_commonOf_b0 y0 y2
set_option maxHeartbeats 4000000 in
set_option maxRecDepth 100000 in
theorem bX11_commonOf_b44 {G : GG} (y0 : Int) (y2 : Int) (M : MM)  (y4 : Int) {res : Int}  (h : sX11_commonOf_b44 y0 y2 y4 = some res) : VV G xX11_commonOf (ZM G xX11_commonOf (some (.long (eJ res))) L0 M) L0 M 0 0 44 [(4, .long (eJ y4))] [] := by
  unfold sX11_commonOf_b44 at h
  refine r_lload (pc := 44) dX11_commonOf_44 0 rfl ?_
  cases h
  exact r_lret (pc := 46) rfl (Nat.le_refl 0) (Nat.le_refl 0) dX11_commonOf_46
set_option maxHeartbeats 4000000 in
set_option maxRecDepth 100000 in
theorem bX11_commonOf_b9 {G : GG} (y0 : Int) (y2 : Int) (M : MM)  {res : Int} : ∀ (n : Nat) (y4 : Int) (y6 : Int) (x8 : Int)  (h : sX11_commonOf_b9 y0 y2 n y4 y6 x8 = some res), VV G xX11_commonOf (ZM G xX11_commonOf (some (.long (eJ res))) L0 M) L0 M 0 0 9 [(4, .long (eJ y4)), (6, .long (eJ y6)), (8, .int (eI x8))] [] := by
  intro n
  induction n with
  | zero =>
    intro y4 y6 x8 h
    rw [sX11_commonOf_b9] at h
    cases h
  | succ n ih =>
    intro y4 y6 x8 h
    rw [sX11_commonOf_b9] at h
    refine r_iload (pc := 9) dX11_commonOf_9 2 rfl ?_
    refine r_bipush (pc := 11) (v := 100) dX11_commonOf_11 (by decide +kernel) ?_
    refine r_icmp_ge (pc := 13) (tgt := 44) dX11_commonOf_13 (by decide) rfl wl_100 (fun c_1 => ?_) (fun c_1 => ?_)
    · replace h := (if_pos c_1).symm.trans h
      refine r_sub (lv' := [(4, .long (eJ y4))]) [0] rfl ?_
      exact bX11_commonOf_b44 y0 y2 M _ h
    · replace h := (if_neg c_1).symm.trans h
      refine r_lload (pc := 16) dX11_commonOf_16 1 rfl ?_
      refine r_lconst (pc := 18) (v := 0) dX11_commonOf_18 (by decide +kernel) ?_
      refine r_lcmp_eq (pc := 19) (tgt := 44) dX11_commonOf_19 dX11_commonOf_20 (by decide) rfl wj_0 (fun c_2 => ?_) (fun c_2 => ?_)
      · replace h := (if_pos c_2).symm.trans h
        refine r_sub (lv' := [(4, .long (eJ y4))]) [0] rfl ?_
        exact bX11_commonOf_b44 y0 y2 M _ h
      · replace h := (if_neg c_2).symm.trans h
        refine r_lload (pc := 23) dX11_commonOf_23 0 rfl ?_
        refine r_lload (pc := 25) dX11_commonOf_25 1 rfl ?_
        obtain ⟨c_3, h⟩ := og h
        refine r_lrem (pc := 27) dX11_commonOf_27 rfl rfl c_3 ?_
        refine r_lstore (pc := 28) (lv' := [(9, .long (eJ (Int.tmod (wJ y4) (wJ y6)))), (4, .long (eJ y4)), (6, .long (eJ y6)), (8, .int (eI x8))]) dX11_commonOf_28 (Nat.le_of_ble_eq_true rfl) rfl ?_
        refine r_lload (pc := 30) dX11_commonOf_30 2 rfl ?_
        refine r_lstore (pc := 32) (lv' := [(4, .long (eJ y6)), (9, .long (eJ (Int.tmod (wJ y4) (wJ y6)))), (6, .long (eJ y6)), (8, .int (eI x8))]) dX11_commonOf_32 (Nat.le_of_ble_eq_true rfl) rfl ?_
        refine r_lload (pc := 34) dX11_commonOf_34 1 rfl ?_
        refine r_lstore (pc := 36) (lv' := [(6, .long (eJ (Int.tmod (wJ y4) (wJ y6)))), (4, .long (eJ y6)), (9, .long (eJ (Int.tmod (wJ y4) (wJ y6)))), (8, .int (eI x8))]) dX11_commonOf_36 (Nat.le_of_ble_eq_true rfl) rfl ?_
        obtain ⟨v_4, hv_4, h⟩ := ob h
        refine r_iinc (pc := 38) (y := v_4) (lv' := [(8, .int (eI v_4)), (6, .long (eJ (Int.tmod (wJ y4) (wJ y6)))), (4, .long (eJ y6)), (9, .long (eJ (Int.tmod (wJ y4) (wJ y6))))]) dX11_commonOf_38 3 rfl (Option.some.inj hv_4) (Nat.le_of_ble_eq_true rfl) rfl ?_
        refine r_goto (pc := 41) (tgt := 9) dX11_commonOf_41 (by decide) ?_
        refine r_sub (lv' := [(4, .long (eJ y6)), (6, .long (eJ (Int.tmod (wJ y4) (wJ y6)))), (8, .int (eI v_4))]) [2, 1, 0] rfl ?_
        exact ih _ _ _ h
set_option maxHeartbeats 4000000 in
set_option maxRecDepth 100000 in
theorem bX11_commonOf_b0 {G : GG} (y0 : Int) (y2 : Int) (M : MM)   {res : Int}  (h : sX11_commonOf_b0 y0 y2 = some res) : VV G xX11_commonOf (ZM G xX11_commonOf (some (.long (eJ res))) L0 M) L0 M 0 0 0 [(0, .long (eJ y0)), (2, .long (eJ y2))] [] := by
  unfold sX11_commonOf_b0 at h
  refine r_lload_n (pc := 0) (i := 0) dX11_commonOf_0 rfl 0 rfl ?_
  refine r_lstore (pc := 1) (lv' := [(4, .long (eJ y0)), (0, .long (eJ y0)), (2, .long (eJ y2))]) dX11_commonOf_1 (Nat.le_of_ble_eq_true rfl) rfl ?_
  refine r_lload_n (pc := 3) (i := 2) dX11_commonOf_3 rfl 2 rfl ?_
  refine r_lstore (pc := 4) (lv' := [(6, .long (eJ y2)), (4, .long (eJ y0)), (0, .long (eJ y0)), (2, .long (eJ y2))]) dX11_commonOf_4 (Nat.le_of_ble_eq_true rfl) rfl ?_
  refine r_iconst (pc := 6) (v := 0) dX11_commonOf_6 (by decide +kernel) ?_
  refine r_istore (pc := 7) (lv' := [(8, .int (eI 0)), (6, .long (eJ y2)), (4, .long (eJ y0)), (0, .long (eJ y0)), (2, .long (eJ y2))]) dX11_commonOf_7 (Nat.le_of_ble_eq_true rfl) rfl ?_
  refine r_sub (lv' := [(4, .long (eJ y0)), (6, .long (eJ y2)), (8, .int (eI 0))]) [2, 1, 0] rfl ?_
  exact bX11_commonOf_b9 y0 y2 M _ _ _ _ h
theorem kX11_commonOf {G : GG} (y0 : Int) (y2 : Int) (M : MM) {res : Int}  (h : sX11_commonOf y0 y2 = some res) : CO G xX11_commonOf [.long (eJ y0), .long (eJ y2)] L0 M (some (.long (eJ res))) L0 M := CO_of (by decide +kernel) (Nat.le_of_ble_eq_true rfl) (bX11_commonOf_b0 y0 y2 M h)
abbrev xX11_fraction : XX := (yX11_fraction, cX11_fraction, 7, (some .long), 1, 30, 0, 0)
theorem ck_X11_fraction_385 : CKS xX11_fraction 385 xX11_commonOf 2 := ⟨⟨tb_i 1012 (by decide +kernel) (by decide +kernel), tb_i 139 (by decide +kernel) (by decide +kernel), tb_i 1014 (by decide +kernel) (by decide +kernel), ⟨by decide +kernel, by decide +kernel, by decide +kernel⟩, by decide, by decide⟩, tb_i 1013 (by decide +kernel) (by decide +kernel)⟩
def sX11_fraction_b12 (y0 : Int) (y2 : Int) (x4 : Int)   : Option Int := (if wI x4 = 0 then (some (0)) else (some (1)))
def sX11_fraction_b0 (y0 : Int) (y2 : Int) (x4 : Int)   : Option Int := (if wJ y0 ≤ 0 then (sX11_fraction_b12 y0 y2 x4) else (if 0 < wJ y2 then ((sX11_commonOf y0 y2).bind fun q_3 => (if 0 < wJ q_3 then (if wI x4 = 0 then (if wJ q_3 ≠ 0 then (some ((Int.tdiv (wJ y0) (wJ q_3)))) else none) else (if wJ q_3 ≠ 0 then (some ((Int.tdiv (wJ y2) (wJ q_3)))) else none)) else (if wI x4 = 0 then (some (0)) else (some (1))))) else (sX11_fraction_b12 y0 y2 x4)))
def sX11_fraction (y0 : Int) (y2 : Int) (x4 : Int) : Option Int := sX11_fraction_b0 y0 y2 x4
set_option maxHeartbeats 4000000 in
set_option maxRecDepth 100000 in
theorem bX11_fraction_b12 {G : GG} (y0 : Int) (y2 : Int) (x4 : Int) (M : MM)   {res : Int}  (h : sX11_fraction_b12 y0 y2 x4 = some res) : VV G xX11_fraction (ZM G xX11_fraction (some (.long (eJ res))) L0 M) L0 M 0 0 12 [(4, .int (eI x4))] [] := by
  unfold sX11_fraction_b12 at h
  refine r_iload (pc := 12) dX11_fraction_12 0 rfl ?_
  refine r_if_eq (pc := 14) (tgt := 21) dX11_fraction_14 (by decide) rfl (fun c_1 => ?_) (fun c_1 => ?_)
  · replace h := (if_pos c_1).symm.trans h
    refine r_lconst (pc := 21) (v := 0) dX11_fraction_21 (by decide +kernel) ?_
    cases h
    exact r_lret (pc := 22) rfl (Nat.le_refl 0) (Nat.le_refl 0) dX11_fraction_22
  · replace h := (if_neg c_1).symm.trans h
    refine r_lconst (pc := 17) (v := 1) dX11_fraction_17 (by decide +kernel) ?_
    refine r_goto (pc := 18) (tgt := 22) dX11_fraction_18 (by decide) ?_
    cases h
    exact r_lret (pc := 22) rfl (Nat.le_refl 0) (Nat.le_refl 0) dX11_fraction_22
set_option maxHeartbeats 4000000 in
set_option maxRecDepth 100000 in
theorem bX11_fraction_b0 {G : GG} (y0 : Int) (y2 : Int) (x4 : Int) (M : MM)   {res : Int}  (h : sX11_fraction_b0 y0 y2 x4 = some res) : VV G xX11_fraction (ZM G xX11_fraction (some (.long (eJ res))) L0 M) L0 M 0 0 0 [(0, .long (eJ y0)), (2, .long (eJ y2)), (4, .int (eI x4))] [] := by
  unfold sX11_fraction_b0 at h
  refine r_lload_n (pc := 0) (i := 0) dX11_fraction_0 rfl 0 rfl ?_
  refine r_lconst (pc := 1) (v := 0) dX11_fraction_1 (by decide +kernel) ?_
  refine r_lcmp_le (pc := 2) (tgt := 12) dX11_fraction_2 dX11_fraction_3 (by decide) rfl wj_0 (fun c_1 => ?_) (fun c_1 => ?_)
  · replace h := (if_pos c_1).symm.trans h
    refine r_sub (lv' := [(4, .int (eI x4))]) [2] rfl ?_
    exact bX11_fraction_b12 y0 y2 x4 M h
  · replace h := (if_neg c_1).symm.trans h
    refine r_lload_n (pc := 6) (i := 2) dX11_fraction_6 rfl 1 rfl ?_
    refine r_lconst (pc := 7) (v := 0) dX11_fraction_7 (by decide +kernel) ?_
    refine r_lcmp_gt (pc := 8) (tgt := 23) dX11_fraction_8 dX11_fraction_9 (by decide) rfl wj_0 (fun c_2 => ?_) (fun c_2 => ?_)
    · replace h := (if_pos c_2).symm.trans h
      refine r_lload_n (pc := 23) (i := 0) dX11_fraction_23 rfl 0 rfl ?_
      refine r_lload_n (pc := 24) (i := 2) dX11_fraction_24 rfl 1 rfl ?_
      obtain ⟨q_3, hq_3, h⟩ := ob h
      refine r_cS (pc := 25) (Y := xX11_commonOf) (As := [.long (eJ y0), .long (eJ y2)]) (rest := []) (v := (some (.long (eJ q_3)))) (st1 := [.long (eJ q_3)]) ck_X11_fraction_385 (kX11_commonOf y0 y2 M  hq_3) rfl rfl (Nat.le_of_ble_eq_true rfl) ⟨rfl, rfl⟩ rfl dX11_fraction_25 ?_
      refine r_lstore (pc := 28) (lv' := [(5, .long (eJ q_3)), (0, .long (eJ y0)), (2, .long (eJ y2)), (4, .int (eI x4))]) dX11_fraction_28 (Nat.le_of_ble_eq_true rfl) rfl ?_
      refine r_lload (pc := 30) dX11_fraction_30 0 rfl ?_
      refine r_lconst (pc := 32) (v := 0) dX11_fraction_32 (by decide +kernel) ?_
      refine r_lcmp_gt (pc := 33) (tgt := 48) dX11_fraction_33 dX11_fraction_34 (by decide) rfl wj_0 (fun c_4 => ?_) (fun c_4 => ?_)
      · replace h := (if_pos c_4).symm.trans h
        refine r_iload (pc := 48) dX11_fraction_48 3 rfl ?_
        refine r_if_eq (pc := 50) (tgt := 60) dX11_fraction_50 (by decide) rfl (fun c_5 => ?_) (fun c_5 => ?_)
        · replace h := (if_pos c_5).symm.trans h
          refine r_lload_n (pc := 60) (i := 0) dX11_fraction_60 rfl 1 rfl ?_
          refine r_lload (pc := 61) dX11_fraction_61 0 rfl ?_
          obtain ⟨c_6, h⟩ := og h
          refine r_ldiv (pc := 63) dX11_fraction_63 rfl rfl c_6 ?_
          cases h
          exact r_lret (pc := 64) rfl (Nat.le_refl 0) (Nat.le_refl 0) dX11_fraction_64
        · replace h := (if_neg c_5).symm.trans h
          refine r_lload_n (pc := 53) (i := 2) dX11_fraction_53 rfl 2 rfl ?_
          refine r_lload (pc := 54) dX11_fraction_54 0 rfl ?_
          obtain ⟨c_7, h⟩ := og h
          refine r_ldiv (pc := 56) dX11_fraction_56 rfl rfl c_7 ?_
          refine r_goto (pc := 57) (tgt := 64) dX11_fraction_57 (by decide) ?_
          cases h
          exact r_lret (pc := 64) rfl (Nat.le_refl 0) (Nat.le_refl 0) dX11_fraction_64
      · replace h := (if_neg c_4).symm.trans h
        refine r_iload (pc := 37) dX11_fraction_37 3 rfl ?_
        refine r_if_eq (pc := 39) (tgt := 46) dX11_fraction_39 (by decide) rfl (fun c_8 => ?_) (fun c_8 => ?_)
        · replace h := (if_pos c_8).symm.trans h
          refine r_lconst (pc := 46) (v := 0) dX11_fraction_46 (by decide +kernel) ?_
          cases h
          exact r_lret (pc := 47) rfl (Nat.le_refl 0) (Nat.le_refl 0) dX11_fraction_47
        · replace h := (if_neg c_8).symm.trans h
          refine r_lconst (pc := 42) (v := 1) dX11_fraction_42 (by decide +kernel) ?_
          refine r_goto (pc := 43) (tgt := 47) dX11_fraction_43 (by decide) ?_
          cases h
          exact r_lret (pc := 47) rfl (Nat.le_refl 0) (Nat.le_refl 0) dX11_fraction_47
    · replace h := (if_neg c_2).symm.trans h
      refine r_sub (lv' := [(4, .int (eI x4))]) [2] rfl ?_
      exact bX11_fraction_b12 y0 y2 x4 M h
theorem kX11_fraction {G : GG} (y0 : Int) (y2 : Int) (x4 : Int) (M : MM) {res : Int}  (h : sX11_fraction y0 y2 x4 = some res) : CO G xX11_fraction [.long (eJ y0), .long (eJ y2), .int (eI x4)] L0 M (some (.long (eJ res))) L0 M := CO_of (by decide +kernel) (Nat.le_of_ble_eq_true rfl) (bX11_fraction_b0 y0 y2 x4 M h)
abbrev xX11_hangs : XX := (yX11_hangs, cX11_hangs, 7, (some .long), 4, 95, 0, 0)
theorem ck_X11_hangs_94 : CKV xX11_hangs 94 xX11_partyAt 1 := ⟨⟨tb_i 866 (by decide +kernel) (by decide +kernel), tb_i 139 (by decide +kernel) (by decide +kernel), tb_i 869 (by decide +kernel) (by decide +kernel), ⟨by decide +kernel, by decide +kernel, by decide +kernel⟩, by decide, by decide⟩, tb_i 868 (by decide +kernel) (by decide +kernel), tb_i 13 (by decide +kernel) (by decide +kernel)⟩
theorem ck_X11_hangs_137 : CKV xX11_hangs 137 xX11_cluesAt 1 := ⟨⟨tb_i 989 (by decide +kernel) (by decide +kernel), tb_i 139 (by decide +kernel) (by decide +kernel), tb_i 992 (by decide +kernel) (by decide +kernel), ⟨by decide +kernel, by decide +kernel, by decide +kernel⟩, by decide, by decide⟩, tb_i 991 (by decide +kernel) (by decide +kernel), tb_i 24 (by decide +kernel) (by decide +kernel)⟩
theorem ck_X11_hangs_153 : CKV xX11_hangs 153 xX2_weighs 3 := ⟨⟨tb_i 998 (by decide +kernel) (by decide +kernel), tb_i 148 (by decide +kernel) (by decide +kernel), tb_i 1001 (by decide +kernel) (by decide +kernel), ⟨by decide +kernel, by decide +kernel, by decide +kernel⟩, by decide, by decide⟩, tb_i 999 (by decide +kernel) (by decide +kernel), tb_i 1000 (by decide +kernel) (by decide +kernel)⟩
theorem ck_X11_hangs_165 : CKS xX11_hangs 165 xX11_fraction 3 := ⟨⟨tb_i 1009 (by decide +kernel) (by decide +kernel), tb_i 139 (by decide +kernel) (by decide +kernel), tb_i 1011 (by decide +kernel) (by decide +kernel), ⟨by decide +kernel, by decide +kernel, by decide +kernel⟩, by decide, by decide⟩, tb_i 1010 (by decide +kernel) (by decide +kernel)⟩
def sX11_hangs_b34 (a0 : Nat) (x1 : Int) (x2 : Int) (x3 : Int) (x4 : Int)   (M : MM) : Option (Int × MM) := (some (((-1), M)))
def sX11_hangs_b0 (a0 : Nat) (x1 : Int) (x2 : Int) (x3 : Int) (x4 : Int)   (M : MM) : Option (Int × MM) := ((sX11_partyAt a0 x1 M).bind fun q_1 => (nM q_1 ((sX11_cluesAt a0 x2 M).bind fun q_3 => (nM q_3 (sX11_hangs_b34 a0 x1 x2 x3 x4 M) fun m_4 => (sX11_hangs_b34 a0 x1 x2 x3 x4 M))) fun m_2 => ((sX11_cluesAt a0 x2 M).bind fun q_5 => (nM q_5 (sX11_hangs_b34 a0 x1 x2 x3 x4 M) fun m_6 => (if wI x3 < 0 then (sX11_hangs_b34 a0 x1 x2 x3 x4 M) else (if wI x3 < 8 then ((sX2_weighs (gR a0 5) m_2 m_6 (-1) M).bind fun q_10 => (if wJ (q_10 (gR a0 5) 1) = 0 then (some (((-1), q_10))) else (if 0 ≤ wI x3 ∧ wI x3 < 8 then ((sX11_fraction (q_10 (gR (gR a0 5) 0) (wI x3).toNat) (q_10 (gR a0 5) 1) x4).bind fun q_17 => (some ((q_17, q_10)))) else none))) else (sX11_hangs_b34 a0 x1 x2 x3 x4 M)))))))
def sX11_hangs (a0 : Nat) (x1 : Int) (x2 : Int) (x3 : Int) (x4 : Int) (M : MM) : Option (Int × MM) := sX11_hangs_b0 a0 x1 x2 x3 x4 M
set_option maxHeartbeats 4000000 in
set_option maxRecDepth 100000 in
theorem bX11_hangs_b34 {G : GG} (a0 : Nat) (x1 : Int) (x2 : Int) (x3 : Int) (x4 : Int) (oa0 : OB L0 a0 11)  (M : MM) {res : (Int × MM)}  (h : sX11_hangs_b34 a0 x1 x2 x3 x4 M = some res) : VV G xX11_hangs (ZM G xX11_hangs (some (.long (eJ res.1))) L0 res.2) L0 M 0 0 34 [] [] := by
  unfold sX11_hangs_b34 at h
  refine r_ldc2 (pc := 34) (v := (-1)) kc_11_151 dX11_hangs_34 ?_
  cases h
  exact r_lret (pc := 37) rfl (Nat.le_refl 0) (Nat.le_refl 0) dX11_hangs_37
set_option maxHeartbeats 4000000 in
set_option maxRecDepth 100000 in
theorem bX11_hangs_b0 {G : GG} (a0 : Nat) (x1 : Int) (x2 : Int) (x3 : Int) (x4 : Int) (oa0 : OB L0 a0 11)  (M : MM) {res : (Int × MM)}  (h : sX11_hangs_b0 a0 x1 x2 x3 x4 M = some res) : VV G xX11_hangs (ZM G xX11_hangs (some (.long (eJ res.1))) L0 res.2) L0 M 0 0 0 [(0, .ref (gA G a0)), (1, .int (eI x1)), (2, .int (eI x2)), (3, .int (eI x3)), (4, .int (eI x4))] [] := by
  unfold sX11_hangs_b0 at h
  refine r_aload_n (pc := 0) (i := 0) dX11_hangs_0 rfl 0 rfl ?_
  refine r_iload_n (pc := 1) (i := 1) dX11_hangs_1 rfl 1 rfl ?_
  obtain ⟨q_1, hq_1, h⟩ := ob h
  refine r_cV (pc := 2) (Y := xX11_partyAt) (As := [.int (eI x1)]) (rest := []) (v := (some (nV G q_1))) (st1 := [nV G q_1]) ck_X11_hangs_94 (kX11_partyAt a0 x1 M oa0 hq_1) oa0 rfl rfl rfl rfl (Nat.le_of_ble_eq_true rfl) ⟨rfl, rfl⟩ rfl dX11_hangs_2 ?_
  have oq_1 := nX11_partyAt _ _ _ oa0 hq_1
  rcases q_1 with _ | m_2
  · replace h := nM_z h
    refine r_stk (st' := [.null]) rfl ?_
    refine r_astoreN (pc := 5) (lv' := [(5, .null), (0, .ref (gA G a0)), (1, .int (eI x1)), (2, .int (eI x2)), (3, .int (eI x3)), (4, .int (eI x4))]) dX11_hangs_5 (Nat.le_of_ble_eq_true rfl) rfl ?_
    refine r_aload_n (pc := 7) (i := 0) dX11_hangs_7 rfl 1 rfl ?_
    refine r_iload_n (pc := 8) (i := 2) dX11_hangs_8 rfl 3 rfl ?_
    obtain ⟨q_3, hq_3, h⟩ := ob h
    refine r_cV (pc := 9) (Y := xX11_cluesAt) (As := [.int (eI x2)]) (rest := []) (v := (some (nV G q_3))) (st1 := [nV G q_3]) ck_X11_hangs_137 (kX11_cluesAt a0 x2 M oa0 hq_3) oa0 rfl rfl rfl rfl (Nat.le_of_ble_eq_true rfl) ⟨rfl, rfl⟩ rfl dX11_hangs_9 ?_
    have oq_3 := nX11_cluesAt _ _ _ oa0 hq_3
    rcases q_3 with _ | m_4
    · replace h := nM_z h
      refine r_stk (st' := [.null]) rfl ?_
      refine r_astoreN (pc := 12) (lv' := [(6, .null), (5, .null), (0, .ref (gA G a0)), (1, .int (eI x1)), (2, .int (eI x2)), (3, .int (eI x3)), (4, .int (eI x4))]) dX11_hangs_12 (Nat.le_of_ble_eq_true rfl) rfl ?_
      refine r_aloadN (pc := 14) dX11_hangs_14 1 rfl ?_
      refine r_ifnullN (pc := 16) (tgt := 34) dX11_hangs_16 (by decide) ?_
      refine r_sub (lv' := []) [] rfl ?_
      exact bX11_hangs_b34 a0 x1 x2 x3 x4 oa0 _ h
    · replace h := nM_s h
      have om_4 := oq_3 _ rfl
      refine r_stk (st' := [.ref (gA G m_4)]) rfl ?_
      refine r_astore (pc := 12) (lv' := [(6, .ref (gA G m_4)), (5, .null), (0, .ref (gA G a0)), (1, .int (eI x1)), (2, .int (eI x2)), (3, .int (eI x3)), (4, .int (eI x4))]) dX11_hangs_12 (Nat.le_of_ble_eq_true rfl) rfl ?_
      refine r_aloadN (pc := 14) dX11_hangs_14 1 rfl ?_
      refine r_ifnullN (pc := 16) (tgt := 34) dX11_hangs_16 (by decide) ?_
      refine r_sub (lv' := []) [] rfl ?_
      exact bX11_hangs_b34 a0 x1 x2 x3 x4 oa0 _ h
  · replace h := nM_s h
    have om_2 := oq_1 _ rfl
    refine r_stk (st' := [.ref (gA G m_2)]) rfl ?_
    refine r_astore (pc := 5) (lv' := [(5, .ref (gA G m_2)), (0, .ref (gA G a0)), (1, .int (eI x1)), (2, .int (eI x2)), (3, .int (eI x3)), (4, .int (eI x4))]) dX11_hangs_5 (Nat.le_of_ble_eq_true rfl) rfl ?_
    refine r_aload_n (pc := 7) (i := 0) dX11_hangs_7 rfl 1 rfl ?_
    refine r_iload_n (pc := 8) (i := 2) dX11_hangs_8 rfl 3 rfl ?_
    obtain ⟨q_5, hq_5, h⟩ := ob h
    refine r_cV (pc := 9) (Y := xX11_cluesAt) (As := [.int (eI x2)]) (rest := []) (v := (some (nV G q_5))) (st1 := [nV G q_5]) ck_X11_hangs_137 (kX11_cluesAt a0 x2 M oa0 hq_5) oa0 rfl rfl rfl rfl (Nat.le_of_ble_eq_true rfl) ⟨rfl, rfl⟩ rfl dX11_hangs_9 ?_
    have oq_5 := nX11_cluesAt _ _ _ oa0 hq_5
    rcases q_5 with _ | m_6
    · replace h := nM_z h
      refine r_stk (st' := [.null]) rfl ?_
      refine r_astoreN (pc := 12) (lv' := [(6, .null), (5, .ref (gA G m_2)), (0, .ref (gA G a0)), (1, .int (eI x1)), (2, .int (eI x2)), (3, .int (eI x3)), (4, .int (eI x4))]) dX11_hangs_12 (Nat.le_of_ble_eq_true rfl) rfl ?_
      refine r_aload (pc := 14) dX11_hangs_14 1 rfl ?_
      refine r_ifnullR (pc := 16) dX11_hangs_16 ?_
      refine r_aloadN (pc := 19) dX11_hangs_19 0 rfl ?_
      refine r_ifnullN (pc := 21) (tgt := 34) dX11_hangs_21 (by decide) ?_
      refine r_sub (lv' := []) [] rfl ?_
      exact bX11_hangs_b34 a0 x1 x2 x3 x4 oa0 _ h
    · replace h := nM_s h
      have om_6 := oq_5 _ rfl
      refine r_stk (st' := [.ref (gA G m_6)]) rfl ?_
      refine r_astore (pc := 12) (lv' := [(6, .ref (gA G m_6)), (5, .ref (gA G m_2)), (0, .ref (gA G a0)), (1, .int (eI x1)), (2, .int (eI x2)), (3, .int (eI x3)), (4, .int (eI x4))]) dX11_hangs_12 (Nat.le_of_ble_eq_true rfl) rfl ?_
      refine r_aload (pc := 14) dX11_hangs_14 1 rfl ?_
      refine r_ifnullR (pc := 16) dX11_hangs_16 ?_
      refine r_aload (pc := 19) dX11_hangs_19 0 rfl ?_
      refine r_ifnullR (pc := 21) dX11_hangs_21 ?_
      refine r_iload_n (pc := 24) (i := 3) dX11_hangs_24 rfl 5 rfl ?_
      refine r_if_lt (pc := 25) (tgt := 34) dX11_hangs_25 (by decide) rfl (fun c_7 => ?_) (fun c_7 => ?_)
      · replace h := (if_pos c_7).symm.trans h
        refine r_sub (lv' := []) [] rfl ?_
        exact bX11_hangs_b34 a0 x1 x2 x3 x4 oa0 _ h
      · replace h := (if_neg c_7).symm.trans h
        refine r_iload_n (pc := 28) (i := 3) dX11_hangs_28 rfl 5 rfl ?_
        refine r_bipush (pc := 29) (v := 8) dX11_hangs_29 (by decide +kernel) ?_
        refine r_icmp_lt (pc := 31) (tgt := 38) dX11_hangs_31 (by decide) rfl wl_8 (fun c_8 => ?_) (fun c_8 => ?_)
        · replace h := (if_pos c_8).symm.trans h
          refine r_aload_n (pc := 38) (i := 0) dX11_hangs_38 rfl 2 rfl ?_
          have o_9 := (wt_11_5 oa0).2
          refine r_getR (pc := 39) fg_11_41 rfl oa0 (wt_11_5 oa0).1 dX11_hangs_39 ?_
          refine r_aload (pc := 42) dX11_hangs_42 1 rfl ?_
          refine r_aload (pc := 44) dX11_hangs_44 0 rfl ?_
          refine r_iconst (pc := 46) (v := (-1)) dX11_hangs_46 (by decide +kernel) ?_
          obtain ⟨q_10, hq_10, h⟩ := ob h
          refine r_cV (pc := 47) (Y := xX2_weighs) (As := [.ref (gA G m_2), .ref (gA G m_6), .int (eI (-1))]) (rest := []) (v := none) (st1 := []) ck_X11_hangs_153 (kX2_weighs (gR a0 5) m_2 m_6 (-1) M o_9 om_2 om_6 hq_10) o_9 rfl rfl rfl rfl (Nat.le_of_ble_eq_true rfl) ⟨rfl, rfl⟩ rfl dX11_hangs_47 ?_
          refine r_aload_n (pc := 50) (i := 0) dX11_hangs_50 rfl 2 rfl ?_
          have o_11 := (wt_11_5 oa0).2
          refine r_getR (pc := 51) fg_11_41 rfl oa0 (wt_11_5 oa0).1 dX11_hangs_51 ?_
          refine r_getJ (pc := 54) fg_11_157 rfl o_11 dX11_hangs_54 ?_
          refine r_lconst (pc := 57) (v := 0) dX11_hangs_57 (by decide +kernel) ?_
          refine r_lcmp_ne (pc := 58) (tgt := 68) dX11_hangs_58 dX11_hangs_59 (by decide) rfl wj_0 (fun c_12 => ?_) (fun c_12 => ?_)
          · replace h := (if_neg c_12).symm.trans h
            refine r_aload_n (pc := 68) (i := 0) dX11_hangs_68 rfl 2 rfl ?_
            have o_13 := (wt_11_5 oa0).2
            refine r_getR (pc := 69) fg_11_41 rfl oa0 (wt_11_5 oa0).1 dX11_hangs_69 ?_
            have o_14 := (wt_2_0 o_13).2
            refine r_getR (pc := 72) fg_11_161 rfl o_13 (wt_2_0 o_13).1 dX11_hangs_72 ?_
            refine r_iload_n (pc := 75) (i := 3) dX11_hangs_75 rfl 5 rfl ?_
            obtain ⟨c_15, h⟩ := og h
            refine r_lald (pc := 76) o_14 rfl c_15 rfl dX11_hangs_76 ?_
            refine r_aload_n (pc := 77) (i := 0) dX11_hangs_77 rfl 2 rfl ?_
            have o_16 := (wt_11_5 oa0).2
            refine r_getR (pc := 78) fg_11_41 rfl oa0 (wt_11_5 oa0).1 dX11_hangs_78 ?_
            refine r_getJ (pc := 81) fg_11_157 rfl o_16 dX11_hangs_81 ?_
            refine r_iload (pc := 84) dX11_hangs_84 6 rfl ?_
            obtain ⟨q_17, hq_17, h⟩ := ob h
            refine r_cS (pc := 86) (Y := xX11_fraction) (As := [.long (eJ (q_10 (gR (gR a0 5) 0) (wI x3).toNat)), .long (eJ (q_10 (gR a0 5) 1)), .int (eI x4)]) (rest := []) (v := (some (.long (eJ q_17)))) (st1 := [.long (eJ q_17)]) ck_X11_hangs_165 (kX11_fraction (q_10 (gR (gR a0 5) 0) (wI x3).toNat) (q_10 (gR a0 5) 1) x4 q_10  hq_17) rfl rfl (Nat.le_of_ble_eq_true rfl) ⟨rfl, rfl⟩ rfl dX11_hangs_86 ?_
            cases h
            exact r_lret (pc := 89) rfl (Nat.le_refl 0) (Nat.le_refl 0) dX11_hangs_89
          · replace h := (if_pos c_12).symm.trans h
            refine r_ldc2 (pc := 62) (v := (-1)) kc_11_151 dX11_hangs_62 ?_
            refine r_goto (pc := 65) (tgt := 89) dX11_hangs_65 (by decide) ?_
            cases h
            exact r_lret (pc := 89) rfl (Nat.le_refl 0) (Nat.le_refl 0) dX11_hangs_89
        · replace h := (if_neg c_8).symm.trans h
          refine r_sub (lv' := []) [] rfl ?_
          exact bX11_hangs_b34 a0 x1 x2 x3 x4 oa0 _ h
theorem kX11_hangs {G : GG} (a0 : Nat) (x1 : Int) (x2 : Int) (x3 : Int) (x4 : Int) (M : MM) {res : (Int × MM)} (oa0 : OB L0 a0 11) (h : sX11_hangs a0 x1 x2 x3 x4 M = some res) : CO G xX11_hangs [.ref (gA G a0), .int (eI x1), .int (eI x2), .int (eI x3), .int (eI x4)] L0 M (some (.long (eJ res.1))) L0 res.2 := CO_of (by decide +kernel) (Nat.le_of_ble_eq_true rfl) (bX11_hangs_b0 a0 x1 x2 x3 x4 oa0 M h)
abbrev xX11_aim : XX := (yX11_aim, cX11_aim, 6, (some .int), 6, 145, 0, 0)
theorem ck_X11_aim_94 : CKV xX11_aim 94 xX11_partyAt 1 := ⟨⟨tb_i 866 (by decide +kernel) (by decide +kernel), tb_i 139 (by decide +kernel) (by decide +kernel), tb_i 869 (by decide +kernel) (by decide +kernel), ⟨by decide +kernel, by decide +kernel, by decide +kernel⟩, by decide, by decide⟩, tb_i 868 (by decide +kernel) (by decide +kernel), tb_i 13 (by decide +kernel) (by decide +kernel)⟩
theorem ck_X11_aim_137 : CKV xX11_aim 137 xX11_cluesAt 1 := ⟨⟨tb_i 989 (by decide +kernel) (by decide +kernel), tb_i 139 (by decide +kernel) (by decide +kernel), tb_i 992 (by decide +kernel) (by decide +kernel), ⟨by decide +kernel, by decide +kernel, by decide +kernel⟩, by decide, by decide⟩, tb_i 991 (by decide +kernel) (by decide +kernel), tb_i 24 (by decide +kernel) (by decide +kernel)⟩
theorem ck_X11_aim_169 : CKV xX11_aim 169 xX2_bestWay 3 := ⟨⟨tb_i 1019 (by decide +kernel) (by decide +kernel), tb_i 148 (by decide +kernel) (by decide +kernel), tb_i 1022 (by decide +kernel) (by decide +kernel), ⟨by decide +kernel, by decide +kernel, by decide +kernel⟩, by decide, by decide⟩, tb_i 1020 (by decide +kernel) (by decide +kernel), tb_i 1021 (by decide +kernel) (by decide +kernel)⟩
theorem ck_X11_aim_173 : CKV xX11_aim 173 xX2_misled 2 := ⟨⟨tb_i 1029 (by decide +kernel) (by decide +kernel), tb_i 148 (by decide +kernel) (by decide +kernel), tb_i 1032 (by decide +kernel) (by decide +kernel), ⟨by decide +kernel, by decide +kernel, by decide +kernel⟩, by decide, by decide⟩, tb_i 1030 (by decide +kernel) (by decide +kernel), tb_i 1031 (by decide +kernel) (by decide +kernel)⟩
theorem ck_X11_aim_177 : CKV xX11_aim 177 xX2_contrary 2 := ⟨⟨tb_i 1034 (by decide +kernel) (by decide +kernel), tb_i 148 (by decide +kernel) (by decide +kernel), tb_i 1037 (by decide +kernel) (by decide +kernel), ⟨by decide +kernel, by decide +kernel, by decide +kernel⟩, by decide, by decide⟩, tb_i 1035 (by decide +kernel) (by decide +kernel), tb_i 1036 (by decide +kernel) (by decide +kernel)⟩
def sX11_aim_b0 (a0 : Nat) (x1 : Int) (x2 : Int) (x3 : Int)   (M : MM) : Option (Int × MM) := ((sX11_partyAt a0 x1 M).bind fun q_1 => (nM q_1 ((sX11_cluesAt a0 x2 M).bind fun q_3 => (nM q_3 (some (((-2), M))) fun m_4 => (some (((-2), M))))) fun m_2 => ((sX11_cluesAt a0 x2 M).bind fun q_5 => (nM q_5 (some (((-2), M))) fun m_6 => (if wI x3 = 0 then ((sX2_bestWay (gR a0 5) m_2 m_6 (-1) M).bind fun q_9 => (some (((q_9.1), q_9.2)))) else (if wI x3 = 1 then ((sX2_misled (gR a0 5) m_2 m_6 M).bind fun q_12 => (some (((q_12.1), q_12.2)))) else (if wI x3 = 2 then ((sX2_contrary (gR a0 5) m_2 m_6 M).bind fun q_15 => (some (((q_15.1), q_15.2)))) else (some (((-2), M))))))))))
def sX11_aim (a0 : Nat) (x1 : Int) (x2 : Int) (x3 : Int) (M : MM) : Option (Int × MM) := sX11_aim_b0 a0 x1 x2 x3 M
set_option maxHeartbeats 4000000 in
set_option maxRecDepth 100000 in
theorem bX11_aim_b0 {G : GG} (a0 : Nat) (x1 : Int) (x2 : Int) (x3 : Int) (oa0 : OB L0 a0 11)  (M : MM) {res : (Int × MM)}  (h : sX11_aim_b0 a0 x1 x2 x3 M = some res) : VV G xX11_aim (ZM G xX11_aim (some (.int (eI res.1))) L0 res.2) L0 M 0 0 0 [(0, .ref (gA G a0)), (1, .int (eI x1)), (2, .int (eI x2)), (3, .int (eI x3))] [] := by
  unfold sX11_aim_b0 at h
  refine r_aload_n (pc := 0) (i := 0) dX11_aim_0 rfl 0 rfl ?_
  refine r_iload_n (pc := 1) (i := 1) dX11_aim_1 rfl 1 rfl ?_
  obtain ⟨q_1, hq_1, h⟩ := ob h
  refine r_cV (pc := 2) (Y := xX11_partyAt) (As := [.int (eI x1)]) (rest := []) (v := (some (nV G q_1))) (st1 := [nV G q_1]) ck_X11_aim_94 (kX11_partyAt a0 x1 M oa0 hq_1) oa0 rfl rfl rfl rfl (Nat.le_of_ble_eq_true rfl) ⟨rfl, rfl⟩ rfl dX11_aim_2 ?_
  have oq_1 := nX11_partyAt _ _ _ oa0 hq_1
  rcases q_1 with _ | m_2
  · replace h := nM_z h
    refine r_stk (st' := [.null]) rfl ?_
    refine r_astoreN (pc := 5) (lv' := [(4, .null), (0, .ref (gA G a0)), (1, .int (eI x1)), (2, .int (eI x2)), (3, .int (eI x3))]) dX11_aim_5 (Nat.le_of_ble_eq_true rfl) rfl ?_
    refine r_aload_n (pc := 7) (i := 0) dX11_aim_7 rfl 1 rfl ?_
    refine r_iload_n (pc := 8) (i := 2) dX11_aim_8 rfl 3 rfl ?_
    obtain ⟨q_3, hq_3, h⟩ := ob h
    refine r_cV (pc := 9) (Y := xX11_cluesAt) (As := [.int (eI x2)]) (rest := []) (v := (some (nV G q_3))) (st1 := [nV G q_3]) ck_X11_aim_137 (kX11_cluesAt a0 x2 M oa0 hq_3) oa0 rfl rfl rfl rfl (Nat.le_of_ble_eq_true rfl) ⟨rfl, rfl⟩ rfl dX11_aim_9 ?_
    have oq_3 := nX11_cluesAt _ _ _ oa0 hq_3
    rcases q_3 with _ | m_4
    · replace h := nM_z h
      refine r_stk (st' := [.null]) rfl ?_
      refine r_astoreN (pc := 12) (lv' := [(5, .null), (4, .null), (0, .ref (gA G a0)), (1, .int (eI x1)), (2, .int (eI x2)), (3, .int (eI x3))]) dX11_aim_12 (Nat.le_of_ble_eq_true rfl) rfl ?_
      refine r_aloadN (pc := 14) dX11_aim_14 1 rfl ?_
      refine r_ifnullN (pc := 16) (tgt := 24) dX11_aim_16 (by decide) ?_
      refine r_bipush (pc := 24) (v := (-2)) dX11_aim_24 (by decide +kernel) ?_
      cases h
      exact r_iret (pc := 26) rfl rfl (Nat.le_refl 0) (Nat.le_refl 0) dX11_aim_26
    · replace h := nM_s h
      have om_4 := oq_3 _ rfl
      refine r_stk (st' := [.ref (gA G m_4)]) rfl ?_
      refine r_astore (pc := 12) (lv' := [(5, .ref (gA G m_4)), (4, .null), (0, .ref (gA G a0)), (1, .int (eI x1)), (2, .int (eI x2)), (3, .int (eI x3))]) dX11_aim_12 (Nat.le_of_ble_eq_true rfl) rfl ?_
      refine r_aloadN (pc := 14) dX11_aim_14 1 rfl ?_
      refine r_ifnullN (pc := 16) (tgt := 24) dX11_aim_16 (by decide) ?_
      refine r_bipush (pc := 24) (v := (-2)) dX11_aim_24 (by decide +kernel) ?_
      cases h
      exact r_iret (pc := 26) rfl rfl (Nat.le_refl 0) (Nat.le_refl 0) dX11_aim_26
  · replace h := nM_s h
    have om_2 := oq_1 _ rfl
    refine r_stk (st' := [.ref (gA G m_2)]) rfl ?_
    refine r_astore (pc := 5) (lv' := [(4, .ref (gA G m_2)), (0, .ref (gA G a0)), (1, .int (eI x1)), (2, .int (eI x2)), (3, .int (eI x3))]) dX11_aim_5 (Nat.le_of_ble_eq_true rfl) rfl ?_
    refine r_aload_n (pc := 7) (i := 0) dX11_aim_7 rfl 1 rfl ?_
    refine r_iload_n (pc := 8) (i := 2) dX11_aim_8 rfl 3 rfl ?_
    obtain ⟨q_5, hq_5, h⟩ := ob h
    refine r_cV (pc := 9) (Y := xX11_cluesAt) (As := [.int (eI x2)]) (rest := []) (v := (some (nV G q_5))) (st1 := [nV G q_5]) ck_X11_aim_137 (kX11_cluesAt a0 x2 M oa0 hq_5) oa0 rfl rfl rfl rfl (Nat.le_of_ble_eq_true rfl) ⟨rfl, rfl⟩ rfl dX11_aim_9 ?_
    have oq_5 := nX11_cluesAt _ _ _ oa0 hq_5
    rcases q_5 with _ | m_6
    · replace h := nM_z h
      refine r_stk (st' := [.null]) rfl ?_
      refine r_astoreN (pc := 12) (lv' := [(5, .null), (4, .ref (gA G m_2)), (0, .ref (gA G a0)), (1, .int (eI x1)), (2, .int (eI x2)), (3, .int (eI x3))]) dX11_aim_12 (Nat.le_of_ble_eq_true rfl) rfl ?_
      refine r_aload (pc := 14) dX11_aim_14 1 rfl ?_
      refine r_ifnullR (pc := 16) dX11_aim_16 ?_
      refine r_aloadN (pc := 19) dX11_aim_19 0 rfl ?_
      refine r_ifnonnullN (pc := 21) dX11_aim_21 ?_
      refine r_bipush (pc := 24) (v := (-2)) dX11_aim_24 (by decide +kernel) ?_
      cases h
      exact r_iret (pc := 26) rfl rfl (Nat.le_refl 0) (Nat.le_refl 0) dX11_aim_26
    · replace h := nM_s h
      have om_6 := oq_5 _ rfl
      refine r_stk (st' := [.ref (gA G m_6)]) rfl ?_
      refine r_astore (pc := 12) (lv' := [(5, .ref (gA G m_6)), (4, .ref (gA G m_2)), (0, .ref (gA G a0)), (1, .int (eI x1)), (2, .int (eI x2)), (3, .int (eI x3))]) dX11_aim_12 (Nat.le_of_ble_eq_true rfl) rfl ?_
      refine r_aload (pc := 14) dX11_aim_14 1 rfl ?_
      refine r_ifnullR (pc := 16) dX11_aim_16 ?_
      refine r_aload (pc := 19) dX11_aim_19 0 rfl ?_
      refine r_ifnonnullR (pc := 21) (tgt := 27) dX11_aim_21 (by decide) ?_
      refine r_iload_n (pc := 27) (i := 3) dX11_aim_27 rfl 5 rfl ?_
      by_cases c_7 : wI x3 = 0
      · replace h := (if_pos c_7).symm.trans h
        refine r_tsw (pc := 28) (tgt := 56) (k' := 0) (rfl.trans c_7) dX11_aim_28 (by decide) rfl (by decide) ?_
        refine r_aload_n (pc := 56) (i := 0) dX11_aim_56 rfl 2 rfl ?_
        have o_8 := (wt_11_5 oa0).2
        refine r_getR (pc := 57) fg_11_41 rfl oa0 (wt_11_5 oa0).1 dX11_aim_57 ?_
        refine r_aload (pc := 60) dX11_aim_60 1 rfl ?_
        refine r_aload (pc := 62) dX11_aim_62 0 rfl ?_
        refine r_iconst (pc := 64) (v := (-1)) dX11_aim_64 (by decide +kernel) ?_
        obtain ⟨q_9, hq_9, h⟩ := ob h
        refine r_cV (pc := 65) (Y := xX2_bestWay) (As := [.ref (gA G m_2), .ref (gA G m_6), .int (eI (-1))]) (rest := []) (v := (some (.int (eI (q_9.1))))) (st1 := [.int (eI (q_9.1))]) ck_X11_aim_169 (kX2_bestWay (gR a0 5) m_2 m_6 (-1) M o_8 om_2 om_6 hq_9) o_8 rfl rfl rfl rfl (Nat.le_of_ble_eq_true rfl) ⟨rfl, rfl⟩ rfl dX11_aim_65 ?_
        cases h
        exact r_iret (pc := 68) rfl rfl (Nat.le_refl 0) (Nat.le_refl 0) dX11_aim_68
      · replace h := (if_neg c_7).symm.trans h
        by_cases c_10 : wI x3 = 1
        · replace h := (if_pos c_10).symm.trans h
          refine r_tsw (pc := 28) (tgt := 69) (k' := 1) (rfl.trans c_10) dX11_aim_28 (by decide) rfl (by decide) ?_
          refine r_aload_n (pc := 69) (i := 0) dX11_aim_69 rfl 2 rfl ?_
          have o_11 := (wt_11_5 oa0).2
          refine r_getR (pc := 70) fg_11_41 rfl oa0 (wt_11_5 oa0).1 dX11_aim_70 ?_
          refine r_aload (pc := 73) dX11_aim_73 1 rfl ?_
          refine r_aload (pc := 75) dX11_aim_75 0 rfl ?_
          obtain ⟨q_12, hq_12, h⟩ := ob h
          refine r_cV (pc := 77) (Y := xX2_misled) (As := [.ref (gA G m_2), .ref (gA G m_6)]) (rest := []) (v := (some (.int (eI (q_12.1))))) (st1 := [.int (eI (q_12.1))]) ck_X11_aim_173 (kX2_misled (gR a0 5) m_2 m_6 M o_11 om_2 om_6 hq_12) o_11 rfl rfl rfl rfl (Nat.le_of_ble_eq_true rfl) ⟨rfl, rfl⟩ rfl dX11_aim_77 ?_
          cases h
          exact r_iret (pc := 80) rfl rfl (Nat.le_refl 0) (Nat.le_refl 0) dX11_aim_80
        · replace h := (if_neg c_10).symm.trans h
          by_cases c_13 : wI x3 = 2
          · replace h := (if_pos c_13).symm.trans h
            refine r_tsw (pc := 28) (tgt := 81) (k' := 2) (rfl.trans c_13) dX11_aim_28 (by decide) rfl (by decide) ?_
            refine r_aload_n (pc := 81) (i := 0) dX11_aim_81 rfl 2 rfl ?_
            have o_14 := (wt_11_5 oa0).2
            refine r_getR (pc := 82) fg_11_41 rfl oa0 (wt_11_5 oa0).1 dX11_aim_82 ?_
            refine r_aload (pc := 85) dX11_aim_85 1 rfl ?_
            refine r_aload (pc := 87) dX11_aim_87 0 rfl ?_
            obtain ⟨q_15, hq_15, h⟩ := ob h
            refine r_cV (pc := 89) (Y := xX2_contrary) (As := [.ref (gA G m_2), .ref (gA G m_6)]) (rest := []) (v := (some (.int (eI (q_15.1))))) (st1 := [.int (eI (q_15.1))]) ck_X11_aim_177 (kX2_contrary (gR a0 5) m_2 m_6 M o_14 om_2 om_6 hq_15) o_14 rfl rfl rfl rfl (Nat.le_of_ble_eq_true rfl) ⟨rfl, rfl⟩ rfl dX11_aim_89 ?_
            cases h
            exact r_iret (pc := 92) rfl rfl (Nat.le_refl 0) (Nat.le_refl 0) dX11_aim_92
          · replace h := (if_neg c_13).symm.trans h
            refine r_tswD (pc := 28) (tgt := 93) rfl dX11_aim_28 (by omega) (by decide) ?_
            refine r_bipush (pc := 93) (v := (-2)) dX11_aim_93 (by decide +kernel) ?_
            cases h
            exact r_iret (pc := 95) rfl rfl (Nat.le_refl 0) (Nat.le_refl 0) dX11_aim_95
theorem kX11_aim {G : GG} (a0 : Nat) (x1 : Int) (x2 : Int) (x3 : Int) (M : MM) {res : (Int × MM)} (oa0 : OB L0 a0 11) (h : sX11_aim a0 x1 x2 x3 M = some res) : CO G xX11_aim [.ref (gA G a0), .int (eI x1), .int (eI x2), .int (eI x3)] L0 M (some (.int (eI res.1))) L0 res.2 := CO_of (by decide +kernel) (Nat.le_of_ble_eq_true rfl) (bX11_aim_b0 a0 x1 x2 x3 oa0 M h)
